/-! The reference: one step of the grammar, exactly. -/
/-- a step of the grammar, and why it fails where it fails -/
def pQx (M : mM) (a : Nat) (st : List Int) (x nx r : Int) (M' : mM) : Prop := pQ M a st x nx r M' ∧ (r = -1 → ex x nx = none ∨ ∃ ys t, ex x nx = some (ys, t) ∧ dlv x ys = 1 ∧ 40 ≤ mI M a 7)
section PIX
variable {G : mG} {d a : Nat} {M M2 : mM} {st : List Int} {lv nx : Int}
theorem SI.donex {x nx : Int} {ys : List Int} {t : Nat} (h : SI M a (ys ++ st) lv M2) (he : ex x nx = some (ys, t)) (hl : lv = mI M a 7 + dlv x ys) (h4 : lv = mI M a 7 ∨ lv ≤ 40) : pQx M a st x nx (t : Int) M2 := ⟨h.done he hl h4, fun q => by omega⟩
theorem SI.fail0 {x nx : Int} {st' : List Int} (h : SI M a st' lv M2) (he : ex x nx = none) : pQx M a st x nx (-1) M2 := ⟨h.fail, fun _ => Or.inl he⟩
theorem SI.fail1 {x nx : Int} {st' ys : List Int} {t : Nat} (h : SI M a st' lv M2) (he : ex x nx = some (ys, t)) (hd : dlv x ys = 1) (h4 : 40 ≤ mI M a 7) : pQx M a st x nx (-1) M2 := ⟨h.fail, fun _ => Or.inr ⟨ys, t, he, hd, h4⟩⟩
theorem SI.levelx (h : SI M a st lv M2) (h1 : -1000000 ≤ lv) (h2 : lv ≤ 1000000) : Ci G y_MM_level d [vr a] M2 (fun r M3 => SI M a st (lv + 1) M3 ∧ (r = 0 ∨ r = 1) ∧ (r ≠ 0 → lv + 1 ≤ 40) ∧ (r = 0 → 40 ≤ lv)) := by
  have hk := h.k
  obtain ⟨m, f, s, l⟩ := h
  have w := m.2.1
  refine k_MM_level m.1 ?_
  rw [l]
  refine ⟨hk, ⟨by omega, by omega⟩, fun M3 e3 v hv => ?_⟩
  obtain ⟨m3, f3⟩ := mv_fld ⟨by omega, by omega⟩ m.1 w e3
  have l3 : mI M3 a 7 = lv + 1 := by rw [f3, if_pos rfl]
  rw [l3] at hv
  have s3 := m3.2.2.2.2 _ q11 (fun hq => hq)
  exact ⟨⟨m.trans (m3.mono (fun q hq => hq.elim) (fun x hx => hx) (fun q hq => by rw [hq]; exact w.lt q11)), fun j hj => by rw [f3, if_neg hj]; exact f j hj, s.same s3, l3⟩, by split at hv <;> omega, fun q => by split at hv <;> omega, fun q => by split at hv <;> omega⟩

theorem x_MM_ask (h : SI M a st lv M2) (hl : st.length ≤ 800) (h1 : -1000 ≤ lv) (h2 : lv ≤ 1000) : Ci G y_MM_ask (d + 2) [vr a] M2 (fun r M3 => SI M a (61 :: 33 :: 61 :: 75 :: st) (lv + 1) M3 ∧ ((r = -1 ∧ 40 ≤ lv) ∨ (r = 1 ∧ lv + 1 ≤ 40))) := by
  refine k_MM_ask h.ok ?_
  rw [h.r6]
  refine ⟨h.k, h.k6, (h.push (by omega) ⟨by omega, by omega⟩).mono (fun M3 h3 => ⟨h3.ok, h3.k, (s_MM_want (d := d) h3 (by rw [List.length_cons]; omega) ⟨by omega, by omega⟩ ⟨by omega, by omega⟩ ⟨by omega, by omega⟩).mono (fun M4 h4 => ⟨h4.ok, h4.k, (h4.levelx (by omega) (by omega)).mono (fun r M5 h5 => ?_)⟩)⟩)⟩
  obtain ⟨h5, r1, r2, r3⟩ := h5
  refine ⟨⟨by omega, by omega⟩, h5.ok, fun v hv => ⟨h5, ?_⟩⟩
  by_cases q : r = 0
  · rw [if_pos q] at hv; exact Or.inl ⟨hv, r3 q⟩
  · rw [if_neg q] at hv; exact Or.inr ⟨hv, r2 q⟩

theorem x_MM_anItem (hn : i32 nx) (hO : mOk M) (h : Wd M a) (hs : St M (a + 11) st) (hl : st.length ≤ 700) : Ci G y_MM_anItem (d + 2) [vr a, vi nx] M (pQx M a st 50 nx) := by
  have s0 := SI.start hO h hs
  have e50 : ex 50 nx = ex50 nx := rfl
  unfold ex50 at e50
  refine k_MM_anItem hO hn ⟨fun w => ?_, fun w => ?_⟩
  · rw [if_pos w] at e50
    exact s0.donex (ys := []) (t := 1) e50 (dl0 rfl rfl (by omega)) (Or.inl rfl)
  · rw [if_neg w] at e50
    rw [s0.r6]
    refine ⟨s0.k, s0.k6, s0.two (by omega) (i32s (by omega) (by omega)) (i32s (by omega) (by omega)) (fun M3 h3 => ?_)⟩
    rw [h3.r6]
    have hz : ∀ ys, c75 ys = 0 → c76 ys = 0 → mI M a 7 = mI M a 7 + dlv 50 ys := fun ys h1 h2 => by unfold dlv; rw [h1, h2, if_neg (by omega)]; omega
    refine ⟨fun w1 => ⟨h3.k, h3.k6, (h3.push (by simp only [List.length_cons]; omega) (i32s (by omega) (by omega))).mono (fun M4 h4 => ?_)⟩, fun w1 => ⟨fun w2 => ⟨h3.k, h3.k6, (h3.push (by simp only [List.length_cons]; omega) (i32s (by omega) (by omega))).mono (fun M4 h4 => ⟨h4.ok, h4.k, (s_MM_want (d := d) h4 (by simp only [List.length_cons]; omega) (i32s (by omega) (by omega)) (i32s (by omega) (by omega)) (i32s (by omega) (by omega))).mono (fun M5 h5 => ?_)⟩)⟩, fun w2 => ⟨fun w3 => ⟨h3.k, h3.k6, (h3.push (by simp only [List.length_cons]; omega) (i32s (by omega) (by omega))).mono (fun M4 h4 => ⟨h4.ok, h4.k, (s_MM_want (d := d) h4 (by simp only [List.length_cons]; omega) (i32s (by omega) (by omega)) (i32s (by omega) (by omega)) (i32s (by omega) (by omega))).mono (fun M5 h5 => ?_)⟩)⟩, fun w3 => ⟨fun w4 => ⟨h3.k, h3.k6, (h3.push (by simp only [List.length_cons]; omega) (i32s (by omega) (by omega))).mono (fun M4 h4 => ?_)⟩, fun w4 => ?_⟩⟩⟩⟩
    · rw [if_pos w1] at e50
      exact ⟨h4.ok, h4.donex (ys := [51, 34, 50]) (t := 1) e50 (hz _ (by decide) (by decide)) (Or.inl rfl)⟩
    · rw [if_neg w1, if_pos w2] at e50
      exact ⟨h5.ok, h5.donex (ys := [1, 33, 53, 54, 34, 50]) (t := 1) e50 (hz _ (by decide) (by decide)) (Or.inl rfl)⟩
    · rw [if_neg w1, if_neg w2, if_pos w3] at e50
      exact ⟨h5.ok, h5.donex (ys := [61, 17, 56, 57, 34, 50]) (t := 1) e50 (hz _ (by decide) (by decide)) (Or.inl rfl)⟩
    · rw [if_neg w1, if_neg w2, if_neg w3, if_pos w4] at e50
      exact ⟨h4.ok, h4.donex (ys := [61, 34, 50]) (t := 1) e50 (hz _ (by decide) (by decide)) (Or.inl rfl)⟩
    · rw [if_neg w1, if_neg w2, if_neg w3, if_neg w4] at e50
      exact h3.fail0 e50

theorem x_MM_set0 (hn : i32 nx) (hO : mOk M) (h : Wd M a) (hs : St M (a + 11) st) (hl : st.length ≤ 700) (h1 : -900 ≤ mI M a 7) (h2 : mI M a 7 ≤ 900) : Ci G y_MM_set0 (d + 2) [vr a, vi nx] M (pQx M a st 59 nx) := by
  have s0 := SI.start hO h hs
  have e0 : ex 59 nx = ex59 nx := rfl
  unfold ex59 at e0
  refine k_MM_set0 hO hn ⟨fun w => ⟨s0.k, (s0.levelx (by omega) (by omega)).mono (fun r M2 h2 => ?_)⟩, fun w => s0.fail0 (by rw [if_neg w] at e0; exact e0)⟩
  obtain ⟨h2, r1, r2, r3⟩ := h2
  rw [if_pos w] at e0
  refine ⟨⟨by omega, by omega⟩, h2.ok, fun q => h2.fail1 e0 (by decide) (r3 q), fun q => ?_⟩
  rw [h2.r6]
  refine ⟨h2.k, h2.k6, (h2.push (by omega) (i32s (by omega) (by omega))).mono (fun M3 h3 => ?_)⟩
  rw [h3.r6]
  refine ⟨h3.ok, h3.k, h3.k6, (h3.push (by simp only [List.length_cons]; omega) (i32s (by omega) (by omega))).mono (fun M4 h4 => ?_)⟩
  rw [h4.r6]
  refine ⟨h4.ok, h4.k, h4.k6, (h4.push (by simp only [List.length_cons]; omega) (i32s (by omega) (by omega))).mono (fun M5 h5 => ⟨h5.ok, h5.k, (s_MM_want (d := d) h5 (by simp only [List.length_cons]; omega) (i32s (by omega) (by omega)) (i32s (by omega) (by omega)) (i32s (by omega) (by omega))).mono (fun M6 h6 => ?_)⟩)⟩
  exact ⟨h6.ok, h6.donex (ys := [1, 38, 23, 61, 37, 75]) (t := 1) e0 (dl1 (by decide) (by decide) (by omega)) (Or.inr (r2 q))⟩

theorem ag_donex {x u v g r : Int} {M3 : mM} (s0 : SI M a st (mI M a 7) M) (hx : x ≠ 76) (hv : c75 [v, u] = 0 ∧ c76 [v, u] = 0) (e1 : g ≠ 0 → ex x nx = some ([v, u], 1)) (e2 : g = 0 → ex x nx = some ([], 0)) (h : (g = 0 ∧ r = 0 ∧ M3 = M) ∨ (g ≠ 0 ∧ r = 1 ∧ SI M a (v :: u :: st) (mI M a 7) M3)) : i32 r ∧ mOk M3 ∧ pQx M a st x nx r M3 := by
  rcases h with ⟨h1, h2, h3⟩ | ⟨h1, h2, h3⟩
  · subst h2 h3
    exact ⟨i32s (by omega) (by omega), s0.ok, s0.donex (ys := []) (t := 0) (e2 h1) (dl0 rfl rfl hx) (Or.inl rfl)⟩
  · subst h2
    exact ⟨i32s (by omega) (by omega), h3.ok, h3.donex (ys := [v, u]) (t := 1) (e1 h1) (dl0 hv.1 hv.2 hx) (Or.inl rfl)⟩

theorem x_MM_item {x : Int} (hx : x = 50 ∨ x = 51 ∨ x = 53 ∨ x = 54 ∨ x = 56 ∨ x = 57 ∨ x = 58 ∨ x = 59 ∨ x = 60) (hn : i32 nx) (hO : mOk M) (h : Wd M a) (hs : St M (a + 11) st) (hl : st.length ≤ 700) (h1 : -900 ≤ mI M a 7) (h2 : mI M a 7 ≤ 900) : Ci G y_MM_item (d + 3) [vr a, vi x, vi nx] M (pQx M a st x nx) := by
  have s0 := SI.start hO h hs
  refine k_MM_item hO (by rcases hx with q | q | q | q | q | q | q | q | q <;> rw [q] <;> exact i32s (by omega) (by omega)) hn ⟨fun w => ⟨s0.k, ?_⟩, fun w50 => ⟨fun w => ⟨s0.k, ?_⟩, fun w51 => ⟨fun w => ?_, fun w53 => ⟨fun w => ?_, fun w54 => ⟨fun w => ⟨s0.k, ?_⟩, fun w56 => ⟨fun w => ?_, fun w57 => ⟨fun w => ?_, fun w58 => ⟨fun w => ?_, fun w60 => ⟨s0.k, ?_⟩⟩⟩⟩⟩⟩⟩⟩⟩
  · subst w
    refine (x_MM_anItem (d := d) hn hO h hs hl).mono (fun r M2 h2 => ⟨?_, h2.1.1.1, h2⟩)
    rcases h2.1.2.2 with q | ⟨ys, t, e, q, -⟩
    · rw [q]; exact i32s (by omega) (by omega)
    · have c := ex_chk e
      unfold chk at c
      simp only [Bool.and_eq_true, decide_eq_true_eq] at c
      exact i32s (by omega) (by omega)
  · subst w
    refine (s_MM_want (d := d + 1) s0 (by omega) (i32s (by omega) (by omega)) (i32s (by omega) (by omega)) (i32s (by omega) (by omega))).mono (fun M2 h2 => ⟨h2.ok, h2.donex (ys := [1, 23, 61]) (t := 0) rfl (dl0 (by decide) (by decide) (by omega)) (Or.inl rfl)⟩)
  · subst w
    have e0 : ex 53 nx = ex53 nx := rfl
    unfold ex53 at e0
    refine ⟨fun w => ?_, fun w => ⟨s0.k, (s_MM_want (d := d + 1) s0 (by omega) (i32s (by omega) (by omega)) (i32s (by omega) (by omega)) (i32s (by omega) (by omega))).mono (fun M2 h2 => ⟨h2.ok, ?_⟩)⟩⟩
    · rw [if_pos w] at e0
      exact s0.donex (ys := []) (t := 1) e0 (dl0 rfl rfl (by omega)) (Or.inl rfl)
    · rw [if_neg w] at e0
      exact h2.donex (ys := [61, 16, 61]) (t := 0) e0 (dl0 (by decide) (by decide) (by omega)) (Or.inl rfl)
  · subst w
    have e0 : ex 54 nx = ex54 nx := rfl
    unfold ex54 at e0
    rw [s0.r6]
    refine ⟨fun w => ⟨s0.k, s0.k6, (s0.push (by omega) (i32s (by omega) (by omega))).mono (fun M2 h2 => ⟨h2.ok, ?_⟩)⟩, fun w => ?_⟩
    · rw [if_pos w] at e0
      exact h2.donex (ys := [61]) (t := 1) e0 (dl0 (by decide) (by decide) (by omega)) (Or.inl rfl)
    · rw [if_neg w] at e0
      exact s0.donex (ys := []) (t := 0) e0 (dl0 rfl rfl (by omega)) (Or.inl rfl)
  · subst w
    refine (s_MM_want (d := d + 1) s0 (by omega) (i32s (by omega) (by omega)) (i32s (by omega) (by omega)) (i32s (by omega) (by omega))).mono (fun M2 h2 => ⟨h2.ok, h2.donex (ys := [63, 33, 58]) (t := 0) rfl (dl0 (by decide) (by decide) (by omega)) (Or.inl rfl)⟩)
  · subst w
    intro v hv
    have e0 : ex 57 nx = ex57 nx := rfl
    unfold ex57 at e0
    refine ⟨s0.k, (s_MM_again (d := d + 1) s0 (by omega) (by split at hv <;> exact i32s (by omega) (by omega)) (i32s (by omega) (by omega)) (i32s (by omega) (by omega))).mono (fun r M3 h3 => ag_donex s0 (by omega) (by decide) (fun w => ?_) (fun w => ?_) h3)⟩
    · rw [if_pos (by split at hv <;> omega)] at e0; exact e0
    · rw [if_neg (by split at hv <;> omega)] at e0; exact e0
  · subst w
    have e0 : ex 58 nx = ex58 nx := rfl
    unfold ex58 at e0
    rw [s0.r6]
    refine ⟨fun w => ?_, fun w => ⟨s0.k, s0.k6, s0.two (by omega) (i32s (by omega) (by omega)) (i32s (by omega) (by omega)) (fun M3 h3 => ?_)⟩⟩
    · rw [if_pos w] at e0
      exact s0.donex (ys := []) (t := 1) e0 (dl0 rfl rfl (by omega)) (Or.inl rfl)
    · rw [if_neg w] at e0
      exact h3.donex (ys := [59, 60]) (t := 0) e0 (dl0 (by decide) (by decide) (by omega)) (Or.inl rfl)
  · subst w
    intro v hv
    have e0 : ex 60 nx = ex60 nx := rfl
    unfold ex60 at e0
    refine ⟨s0.k, (s_MM_again (d := d + 1) s0 (by omega) (by split at hv <;> exact i32s (by omega) (by omega)) (i32s (by omega) (by omega)) (i32s (by omega) (by omega))).mono (fun r M3 h3 => ag_donex s0 (by omega) (by decide) (fun w => ?_) (fun w => ?_) h3)⟩
    · rw [if_pos (by split at hv <;> omega)] at e0; exact e0
    · rw [if_neg (by split at hv <;> omega)] at e0; exact e0
  · have w59 : x = 59 := by omega
    subst w59
    refine (x_MM_set0 (d := d) hn hO h hs hl h1 h2).mono (fun r M2 h2 => ⟨?_, h2.1.1.1, h2⟩)
    rcases h2.1.2.2 with q | ⟨ys, t, e, q, -⟩
    · rw [q]; exact i32s (by omega) (by omega)
    · have c := ex_chk e
      unfold chk at c
      simp only [Bool.and_eq_true, decide_eq_true_eq] at c
      exact i32s (by omega) (by omega)

theorem x_MM_sign (hn : i32 nx) (hO : mOk M) (h : Wd M a) (hs : St M (a + 11) st) (hl : st.length ≤ 700) (h1 : -900 ≤ mI M a 7) (h2 : mI M a 7 ≤ 900) : Ci G y_MM_sign (d + 2) [vr a, vi nx] M (pQx M a st 73 nx) := by
  have s0 := SI.start hO h hs
  have e0 : ex 73 nx = ex73 nx := rfl
  unfold ex73 at e0
  refine k_MM_sign hO hn ⟨fun w1 => ?_, fun w1 => ⟨fun w2 => ?_, fun w2 => ⟨fun w3 => ?_, fun w3 => ⟨fun w4 => ?_, fun w4 => s0.fail0 (by rw [if_neg w1, if_neg w2, if_neg w3, if_neg w4] at e0; exact e0)⟩⟩⟩⟩
  · rw [if_pos w1] at e0
    exact s0.donex (ys := []) (t := 1) e0 (dl0 rfl rfl (by omega)) (Or.inl rfl)
  · rw [if_neg w1, if_pos w2] at e0
    rw [s0.r6]
    refine ⟨s0.k, s0.k6, (s0.push (by omega) (i32s (by omega) (by omega))).mono (fun M2 h2 => ?_)⟩
    rw [h2.r6]
    refine ⟨h2.ok, h2.k, h2.k6, (h2.push (by simp only [List.length_cons]; omega) (i32s (by omega) (by omega))).mono (fun M3 h3 => ?_)⟩
    rw [h3.r6]
    refine ⟨h3.ok, h3.k, h3.k6, (h3.push (by simp only [List.length_cons]; omega) (i32s (by omega) (by omega))).mono (fun M4 h4 => ?_)⟩
    rw [h4.r6]
    refine ⟨h4.ok, h4.k, h4.k6, (h4.push (by simp only [List.length_cons]; omega) (i32s (by omega) (by omega))).mono (fun M5 h5 => ?_)⟩
    rw [h5.r6]
    refine ⟨h5.ok, h5.k, h5.k6, (h5.push (by simp only [List.length_cons]; omega) (i32s (by omega) (by omega))).mono (fun M6 h6 => ⟨h6.ok, ?_⟩)⟩
    exact h6.donex (ys := [76, 61, 74, 37, 75]) (t := 1) e0 (by unfold dlv; rw [show c75 [76, 61, 74, 37, 75] = 1 by decide, show c76 [76, 61, 74, 37, 75] = 1 by decide, if_neg (by omega)]; omega) (Or.inl rfl)
  · rw [if_neg w1, if_neg w2, if_pos w3] at e0
    rw [s0.r6]
    refine ⟨s0.k, s0.k6, s0.two (by omega) (i32s (by omega) (by omega)) (i32s (by omega) (by omega)) (fun M3 h3 => ⟨h3.k, (h3.levelx (by omega) (by omega)).mono (fun r M4 h4 => ?_)⟩)⟩
    obtain ⟨h4, r1, r2, r3⟩ := h4
    refine ⟨i32s (by omega) (by omega), h4.ok, fun v hv => ?_⟩
    by_cases q : r = 0
    · rw [if_pos q] at hv; subst hv; exact h4.fail1 e0 (by decide) (r3 q)
    · rw [if_neg q] at hv; subst hv
      exact h4.donex (ys := [73, 75]) (t := 1) e0 (dl1 (by decide) (by decide) (by omega)) (Or.inr (r2 q))
  · rw [if_neg w1, if_neg w2, if_neg w3, if_pos w4] at e0
    rw [s0.r6]
    refine ⟨s0.k, s0.k6, (s0.push (by omega) (i32s (by omega) (by omega))).mono (fun M2 h2 => ?_)⟩
    rw [h2.r6]
    refine ⟨h2.ok, h2.k, h2.k6, h2.two (by simp only [List.length_cons]; omega) (i32s (by omega) (by omega)) (i32s (by omega) (by omega)) (fun M3 h3 => ⟨h3.k, (h3.levelx (by omega) (by omega)).mono (fun r M4 h4 => ?_)⟩)⟩
    obtain ⟨h4, r1, r2, r3⟩ := h4
    refine ⟨i32s (by omega) (by omega), h4.ok, fun v hv => ?_⟩
    by_cases q : r = 0
    · rw [if_pos q] at hv; subst hv; exact h4.fail1 e0 (by decide) (r3 q)
    · rw [if_neg q] at hv; subst hv
      exact h4.donex (ys := [61, 37, 75]) (t := 1) e0 (dl1 (by decide) (by decide) (by omega)) (Or.inr (r2 q))

theorem x_MM_rule0 {x : Int} (hx : x = 61 ∨ x = 62 ∨ x = 63 ∨ x = 64 ∨ x = 65 ∨ x = 66 ∨ x = 67 ∨ x = 68 ∨ x = 69 ∨ x = 70 ∨ x = 71 ∨ x = 72 ∨ x = 73 ∨ x = 74 ∨ x = 76) (hn : i32 nx) (hO : mOk M) (h : Wd M a) (hs : St M (a + 11) st) (hl : st.length ≤ 700) (h1 : -900 ≤ mI M a 7) (h2 : mI M a 7 ≤ 900) : Ci G y_MM_rule0 (d + 3) [vr a, vi x, vi nx] M (pQx M a st x nx) := by
  have s0 := SI.start hO h hs
  have hxb : 61 ≤ x ∧ x ≤ 76 := by omega
  have i2 : ∀ u : Int, 0 ≤ u → u ≤ 100 → i32 u := fun u a b => i32s (by omega) (by omega)
  refine k_MM_rule0 hO (i32s (by omega) (by omega)) hn ⟨fun w => ?_, fun n1 => ⟨fun w => ?_, fun n2 => ⟨fun w => ?_, fun n3 => ⟨fun w => ?_, fun n4 => ⟨fun w => ?_, fun n5 => ⟨fun w => ?_, fun n6 => ⟨fun w => ?_, fun n7 => ⟨fun w => ?_, fun n8 => ⟨fun w => ?_, fun n9 => ⟨fun w => ?_, fun n10 => ⟨fun w => ?_, fun n11 => ⟨fun w => ?_, fun n12 => ⟨fun w => ?_, fun n13 => ⟨fun w => ?_, fun n14 => ?_⟩⟩⟩⟩⟩⟩⟩⟩⟩⟩⟩⟩⟩⟩
  · subst w
    rw [s0.r6]
    exact ⟨s0.k, s0.k6, s0.two (by omega) (i2 _ (by omega) (by omega)) (i2 _ (by omega) (by omega)) (fun M3 h3 => h3.donex (ys := [63, 62]) (t := 0) rfl (dl0 (by decide) (by decide) (by omega)) (Or.inl rfl))⟩
  · subst w
    have e0 : ex 62 nx = ex62 nx := rfl
    unfold ex62 at e0
    refine ⟨fun w => ⟨s0.k, (x_MM_ask (d := d) s0 (by omega) (by omega) (by omega)).mono (fun r M2 h2 => ?_)⟩, fun w => ?_⟩
    · obtain ⟨h2, hr⟩ := h2
      rw [if_pos w] at e0
      rcases hr with ⟨q, q2⟩ | ⟨q, q2⟩
      · subst q
        exact ⟨i32s (by omega) (by omega), h2.ok, k_MM_rule0_114 h2.ok (i32s (by omega) (by omega)) (h2.fail1 e0 (by decide) q2)⟩
      · subst q
        exact ⟨i32s (by omega) (by omega), h2.ok, k_MM_rule0_114 h2.ok (i32s (by omega) (by omega)) (h2.donex (ys := [61, 33, 61, 75]) (t := 1) e0 (dl1 (by decide) (by decide) (by omega)) (Or.inr q2))⟩
    · rw [if_neg w] at e0
      exact k_MM_rule0_114 s0.ok (i32s (by omega) (by omega)) (s0.donex (ys := []) (t := 0) e0 (dl0 rfl rfl (by omega)) (Or.inl rfl))
  · subst w
    rw [s0.r6]
    exact ⟨s0.k, s0.k6, s0.two (by omega) (i2 _ (by omega) (by omega)) (i2 _ (by omega) (by omega)) (fun M3 h3 => h3.donex (ys := [65, 64]) (t := 0) rfl (dl0 (by decide) (by decide) (by omega)) (Or.inl rfl))⟩
  · subst w
    intro v hv
    have e0 : ex 64 nx = ex64 nx := rfl
    unfold ex64 at e0
    refine ⟨s0.k, (s_MM_again (d := d + 1) s0 (by omega) (by split at hv <;> exact i32s (by omega) (by omega)) (i2 _ (by omega) (by omega)) (i2 _ (by omega) (by omega))).mono (fun r M3 h3 => ag_donex s0 (by omega) (by decide) (fun w => ?_) (fun w => ?_) h3)⟩
    · rw [if_pos (by split at hv <;> omega)] at e0; exact e0
    · rw [if_neg (by split at hv <;> omega)] at e0; exact e0
  · subst w
    rw [s0.r6]
    exact ⟨s0.k, s0.k6, s0.two (by omega) (i2 _ (by omega) (by omega)) (i2 _ (by omega) (by omega)) (fun M3 h3 => h3.donex (ys := [67, 66]) (t := 0) rfl (dl0 (by decide) (by decide) (by omega)) (Or.inl rfl))⟩
  · subst w
    intro v hv
    have e0 : ex 66 nx = ex66 nx := rfl
    unfold ex66 at e0
    refine ⟨s0.k, (s_MM_again (d := d + 1) s0 (by omega) (by split at hv <;> exact i32s (by omega) (by omega)) (i2 _ (by omega) (by omega)) (i2 _ (by omega) (by omega))).mono (fun r M3 h3 => ag_donex s0 (by omega) (by decide) (fun w => ?_) (fun w => ?_) h3)⟩
    · rw [if_pos (by split at hv <;> omega)] at e0; exact e0
    · rw [if_neg (by split at hv <;> omega)] at e0; exact e0
  · subst w
    have e0 : ex 67 nx = ex67 nx := rfl
    unfold ex67 at e0
    rw [s0.r6]
    refine ⟨fun w => ⟨s0.k, s0.k6, s0.two (by omega) (i2 _ (by omega) (by omega)) (i2 _ (by omega) (by omega)) (fun M3 h3 => ⟨h3.k, (h3.levelx (by omega) (by omega)).mono (fun r M4 h4 => ?_)⟩)⟩, fun w => ⟨s0.k, s0.k6, s0.two (by omega) (i2 _ (by omega) (by omega)) (i2 _ (by omega) (by omega)) (fun M3 h3 => ?_)⟩⟩
    · obtain ⟨h4, r1, r2, r3⟩ := h4
      rw [if_pos w] at e0
      refine ⟨i32s (by omega) (by omega), h4.ok, fun v hv => ?_⟩
      by_cases q : r = 0
      · rw [if_pos q] at hv; subst hv; exact h4.fail1 e0 (by decide) (r3 q)
      · rw [if_neg q] at hv; subst hv
        exact h4.donex (ys := [67, 75]) (t := 1) e0 (dl1 (by decide) (by decide) (by omega)) (Or.inr (r2 q))
    · rw [if_neg w] at e0
      exact h3.donex (ys := [69, 68]) (t := 0) e0 (dl0 (by decide) (by decide) (by omega)) (Or.inl rfl)
  · subst w
    have e0 : ex 68 nx = ex68 nx := rfl
    unfold ex68 at e0
    refine (s_MM_isComparison hn hO).mono (fun r M2 h2 => ?_)
    obtain ⟨e2, r1, r2⟩ := h2
    subst e2
    rw [s0.r6]
    refine ⟨i32s (by omega) (by omega), hO, fun q => ?_, fun q => ⟨s0.k, s0.k6, (s0.push (by omega) (i2 _ (by omega) (by omega))).mono (fun M3 h3 => ⟨h3.ok, ?_⟩)⟩⟩
    · rw [if_neg (fun w => r2.2 w q)] at e0
      exact s0.donex (ys := []) (t := 0) e0 (dl0 rfl rfl (by omega)) (Or.inl rfl)
    · rw [if_pos (r2.1 q)] at e0
      exact h3.donex (ys := [69]) (t := 1) e0 (dl0 (by decide) (by decide) (by omega)) (Or.inl rfl)
  · subst w
    rw [s0.r6]
    exact ⟨s0.k, s0.k6, s0.two (by omega) (i2 _ (by omega) (by omega)) (i2 _ (by omega) (by omega)) (fun M3 h3 => h3.donex (ys := [71, 70]) (t := 0) rfl (dl0 (by decide) (by decide) (by omega)) (Or.inl rfl))⟩
  · subst w
    intro v hv
    have e0 : ex 70 nx = ex70 nx := rfl
    unfold ex70 at e0
    refine ⟨s0.k, (s_MM_again (d := d + 1) s0 (by omega) (by split at hv <;> exact i32s (by omega) (by omega)) (i2 _ (by omega) (by omega)) (i2 _ (by omega) (by omega))).mono (fun r M3 h3 => ag_donex s0 (by omega) (by decide) (fun w => ?_) (fun w => ?_) h3)⟩
    · rw [if_pos (by split at hv <;> omega)] at e0; exact e0
    · rw [if_neg (by split at hv <;> omega)] at e0; exact e0
  · subst w
    rw [s0.r6]
    exact ⟨s0.k, s0.k6, s0.two (by omega) (i2 _ (by omega) (by omega)) (i2 _ (by omega) (by omega)) (fun M3 h3 => h3.donex (ys := [73, 72]) (t := 0) rfl (dl0 (by decide) (by decide) (by omega)) (Or.inl rfl))⟩
  · subst w
    intro v hv
    have e0 : ex 72 nx = ex72 nx := rfl
    unfold ex72 at e0
    refine ⟨s0.k, (s_MM_again (d := d + 1) s0 (by omega) (by split at hv <;> exact i32s (by omega) (by omega)) (i2 _ (by omega) (by omega)) (i2 _ (by omega) (by omega))).mono (fun r M3 h3 => ag_donex s0 (by omega) (by decide) (fun w => ?_) (fun w => ?_) h3)⟩
    · rw [if_pos (by split at hv <;> omega)] at e0; exact e0
    · rw [if_neg (by split at hv <;> omega)] at e0; exact e0
  · subst w
    intro v hv
    have e0 : ex 74 nx = ex74 nx := rfl
    unfold ex74 at e0
    refine ⟨s0.k, (s_MM_again (d := d + 1) s0 (by omega) (by split at hv <;> exact i32s (by omega) (by omega)) (i2 _ (by omega) (by omega)) (i2 _ (by omega) (by omega))).mono (fun r M3 h3 => ag_donex s0 (by omega) (by decide) (fun w => ?_) (fun w => ?_) h3)⟩
    · rw [if_pos (by split at hv <;> omega)] at e0; exact e0
    · rw [if_neg (by split at hv <;> omega)] at e0; exact e0
  · subst w
    have e0 : ex 76 nx = ex76 nx := rfl
    unfold ex76 at e0
    refine ⟨fun w => ⟨s0.k, (s0.levelx (by omega) (by omega)).mono (fun r M4 h4 => ?_)⟩, fun w => k_MM_rule0_408 hO (i32s (by omega) (by omega)) (s0.fail0 (by rw [if_neg w] at e0; exact e0))⟩
    obtain ⟨h4, r1, r2, r3⟩ := h4
    rw [if_pos w] at e0
    exact ⟨i32s (by omega) (by omega), h4.ok, fun q => k_MM_rule0_408 h4.ok (i32s (by omega) (by omega)) (h4.fail1 e0 (by decide) (r3 q)), fun q => k_MM_rule0_408 h4.ok (i32s (by omega) (by omega)) (h4.donex (ys := []) (t := 1) e0 (by unfold dlv; rw [if_pos rfl]; show _ = _ + (((0 : Nat) : Int) - ((0 : Nat) : Int) + 1); omega) (Or.inr (r2 q)))⟩
  · have w : x = 73 := by omega
    subst w
    exact ⟨s0.k, (x_MM_sign (d := d) hn hO h hs hl h1 h2).mono (fun r M2 h2 => ⟨pq_i32 h2.1, h2.1.1.1, h2⟩)⟩

end PIX
