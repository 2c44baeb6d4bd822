section
/-! The reference: one step of the grammar, exactly. -/
/-- a step of the grammar, and why it fails where it fails -/
def pQx (M : mM) (a : Nat) (st : List Int) (x nx r : Int) (M' : mM) : Prop := pQ M a st x nx r M' ∧ (r = -1 → ex x nx = none ∨ ∃ ys t, ex x nx = some (ys, t) ∧ dlv x ys = 1 ∧ 40 ≤ mI M a 7)
section PIX
variable {G : mG} {d a : Nat} {M M2 : mM} {st : List Int} {lv nx : Int}
theorem SI.donex {x nx : Int} {ys : List Int} {t : Nat} (h : SI M a (ys ++ st) lv M2) (he : ex x nx = some (ys, t)) (hl : lv = mI M a 7 + dlv x ys) (h4 : lv = mI M a 7 ∨ lv ≤ 40) : pQx M a st x nx (t : Int) M2 := ⟨h.done he hl h4, fun q => by omega⟩
theorem SI.fail0 {x nx : Int} {st' : List Int} (h : SI M a st' lv M2) (he : ex x nx = none) : pQx M a st x nx (-1) M2 := ⟨h.fail, fun _ => Or.inl he⟩
theorem SI.fail1 {x nx : Int} {st' ys : List Int} {t : Nat} (h : SI M a st' lv M2) (he : ex x nx = some (ys, t)) (hd : dlv x ys = 1) (h4 : 40 ≤ mI M a 7) : pQx M a st x nx (-1) M2 := ⟨h.fail, fun _ => Or.inr ⟨ys, t, he, hd, h4⟩⟩
theorem SI.levelx (h : SI M a st lv M2) (h1 : -1000000 ≤ lv) (h2 : lv ≤ 1000000) : Ci G y_MM_level d [vr a] M2 (fun r M3 => SI M a st (lv + 1) M3 ∧ (r = 0 ∨ r = 1) ∧ (r ≠ 0 → lv + 1 ≤ 40) ∧ (r = 0 → 40 ≤ lv)) := by
  have hk := h.k
  obtain ⟨m, f, s, l⟩ := h
  have w := m.2.1
  refine k_MM_level m.1 ?_
  rw [l]
  refine ⟨hk, ⟨by omega, by omega⟩, fun M3 e3 v hv => ?_⟩
  obtain ⟨m3, f3⟩ := mv_fld ⟨by omega, by omega⟩ m.1 w e3
  have l3 : mI M3 a 7 = lv + 1 := by rw [f3, if_pos rfl]
  rw [l3] at hv
  have s3 := m3.2.2.2.2 _ q11 (fun hq => hq)
  exact ⟨⟨m.trans (m3.mono (fun q hq => hq.elim) (fun x hx => hx) (fun q hq => by rw [hq]; exact w.lt q11)), fun j hj => by rw [f3, if_neg hj]; exact f j hj, s.same s3, l3⟩, by split at hv <;> omega, fun q => by split at hv <;> omega, fun q => by split at hv <;> omega⟩

theorem x_MM_ask (h : SI M a st lv M2) (hl : st.length ≤ 800) (h1 : -1000 ≤ lv) (h2 : lv ≤ 1000) : Ci G y_MM_ask (d + 2) [vr a] M2 (fun r M3 => SI M a (61 :: 33 :: 61 :: 75 :: st) (lv + 1) M3 ∧ ((r = -1 ∧ 40 ≤ lv) ∨ (r = 1 ∧ lv + 1 ≤ 40))) := by
  refine k_MM_ask h.ok ?_
  rw [h.r6]
  refine ⟨h.k, h.k6, (h.push (by omega) ⟨by omega, by omega⟩).mono (fun M3 h3 => ⟨h3.ok, h3.k, (s_MM_want (d := d) h3 (by rw [List.length_cons]; omega) ⟨by omega, by omega⟩ ⟨by omega, by omega⟩ ⟨by omega, by omega⟩).mono (fun M4 h4 => ⟨h4.ok, h4.k, (h4.levelx (by omega) (by omega)).mono (fun r M5 h5 => ?_)⟩)⟩)⟩
  obtain ⟨h5, r1, r2, r3⟩ := h5
  refine ⟨⟨by omega, by omega⟩, h5.ok, fun v hv => ⟨h5, ?_⟩⟩
  by_cases q : r = 0
  · rw [if_pos q] at hv; exact Or.inl ⟨hv, r3 q⟩
  · rw [if_neg q] at hv; exact Or.inr ⟨hv, r2 q⟩

theorem x_MM_anItem (hn : i32 nx) (hO : mOk M) (h : Wd M a) (hs : St M (a + 11) st) (hl : st.length ≤ 700) : Ci G y_MM_anItem (d + 2) [vr a, vi nx] M (pQx M a st 50 nx) := by
  have s0 := SI.start hO h hs
  have e50 : ex 50 nx = ex50 nx := rfl
  unfold ex50 at e50
  refine k_MM_anItem hO hn ⟨fun w => ?_, fun w => ?_⟩
  · rw [if_pos w] at e50
    exact s0.donex (ys := []) (t := 1) e50 (dl0 rfl rfl (by omega)) (Or.inl rfl)
  · rw [if_neg w] at e50
    rw [s0.r6]
    refine ⟨s0.k, s0.k6, s0.two (by omega) (i32s (by omega) (by omega)) (i32s (by omega) (by omega)) (fun M3 h3 => ?_)⟩
    rw [h3.r6]
    have hz : ∀ ys, c75 ys = 0 → c76 ys = 0 → mI M a 7 = mI M a 7 + dlv 50 ys := fun ys h1 h2 => by unfold dlv; rw [h1, h2, if_neg (by omega)]; omega
    refine ⟨fun w1 => ⟨h3.k, h3.k6, (h3.push (by simp only [List.length_cons]; omega) (i32s (by omega) (by omega))).mono (fun M4 h4 => ?_)⟩, fun w1 => ⟨fun w2 => ⟨h3.k, h3.k6, (h3.push (by simp only [List.length_cons]; omega) (i32s (by omega) (by omega))).mono (fun M4 h4 => ⟨h4.ok, h4.k, (s_MM_want (d := d) h4 (by simp only [List.length_cons]; omega) (i32s (by omega) (by omega)) (i32s (by omega) (by omega)) (i32s (by omega) (by omega))).mono (fun M5 h5 => ?_)⟩)⟩, fun w2 => ⟨fun w3 => ⟨h3.k, h3.k6, (h3.push (by simp only [List.length_cons]; omega) (i32s (by omega) (by omega))).mono (fun M4 h4 => ⟨h4.ok, h4.k, (s_MM_want (d := d) h4 (by simp only [List.length_cons]; omega) (i32s (by omega) (by omega)) (i32s (by omega) (by omega)) (i32s (by omega) (by omega))).mono (fun M5 h5 => ?_)⟩)⟩, fun w3 => ⟨fun w4 => ⟨h3.k, h3.k6, (h3.push (by simp only [List.length_cons]; omega) (i32s (by omega) (by omega))).mono (fun M4 h4 => ?_)⟩, fun w4 => ?_⟩⟩⟩⟩
    · rw [if_pos w1] at e50
      exact ⟨h4.ok, h4.donex (ys := [51, 34, 50]) (t := 1) e50 (hz _ (by decide) (by decide)) (Or.inl rfl)⟩
    · rw [if_neg w1, if_pos w2] at e50
      exact ⟨h5.ok, h5.donex (ys := [1, 33, 53, 54, 34, 50]) (t := 1) e50 (hz _ (by decide) (by decide)) (Or.inl rfl)⟩
    · rw [if_neg w1, if_neg w2, if_pos w3] at e50
      exact ⟨h5.ok, h5.donex (ys := [61, 17, 56, 57, 34, 50]) (t := 1) e50 (hz _ (by decide) (by decide)) (Or.inl rfl)⟩
    · rw [if_neg w1, if_neg w2, if_neg w3, if_pos w4] at e50
      exact ⟨h4.ok, h4.donex (ys := [61, 34, 50]) (t := 1) e50 (hz _ (by decide) (by decide)) (Or.inl rfl)⟩
    · rw [if_neg w1, if_neg w2, if_neg w3, if_neg w4] at e50
      exact h3.fail0 e50

theorem x_MM_set0 (hn : i32 nx) (hO : mOk M) (h : Wd M a) (hs : St M (a + 11) st) (hl : st.length ≤ 700) (h1 : -900 ≤ mI M a 7) (h2 : mI M a 7 ≤ 900) : Ci G y_MM_set0 (d + 2) [vr a, vi nx] M (pQx M a st 59 nx) := by
  have s0 := SI.start hO h hs
  have e0 : ex 59 nx = ex59 nx := rfl
  unfold ex59 at e0
  refine k_MM_set0 hO hn ⟨fun w => ⟨s0.k, (s0.levelx (by omega) (by omega)).mono (fun r M2 h2 => ?_)⟩, fun w => s0.fail0 (by rw [if_neg w] at e0; exact e0)⟩
  obtain ⟨h2, r1, r2, r3⟩ := h2
  rw [if_pos w] at e0
  refine ⟨⟨by omega, by omega⟩, h2.ok, fun q => h2.fail1 e0 (by decide) (r3 q), fun q => ?_⟩
  rw [h2.r6]
  refine ⟨h2.k, h2.k6, (h2.push (by omega) (i32s (by omega) (by omega))).mono (fun M3 h3 => ?_)⟩
  rw [h3.r6]
  refine ⟨h3.ok, h3.k, h3.k6, (h3.push (by simp only [List.length_cons]; omega) (i32s (by omega) (by omega))).mono (fun M4 h4 => ?_)⟩
  rw [h4.r6]
  refine ⟨h4.ok, h4.k, h4.k6, (h4.push (by simp only [List.length_cons]; omega) (i32s (by omega) (by omega))).mono (fun M5 h5 => ⟨h5.ok, h5.k, (s_MM_want (d := d) h5 (by simp only [List.length_cons]; omega) (i32s (by omega) (by omega)) (i32s (by omega) (by omega)) (i32s (by omega) (by omega))).mono (fun M6 h6 => ?_)⟩)⟩
  exact ⟨h6.ok, h6.donex (ys := [1, 38, 23, 61, 37, 75]) (t := 1) e0 (dl1 (by decide) (by decide) (by omega)) (Or.inr (r2 q))⟩

theorem ag_donex {x u v g r : Int} {M3 : mM} (s0 : SI M a st (mI M a 7) M) (hx : x ≠ 76) (hv : c75 [v, u] = 0 ∧ c76 [v, u] = 0) (e1 : g ≠ 0 → ex x nx = some ([v, u], 1)) (e2 : g = 0 → ex x nx = some ([], 0)) (h : (g = 0 ∧ r = 0 ∧ M3 = M) ∨ (g ≠ 0 ∧ r = 1 ∧ SI M a (v :: u :: st) (mI M a 7) M3)) : i32 r ∧ mOk M3 ∧ pQx M a st x nx r M3 := by
  rcases h with ⟨h1, h2, h3⟩ | ⟨h1, h2, h3⟩
  · subst h2 h3
    exact ⟨i32s (by omega) (by omega), s0.ok, s0.donex (ys := []) (t := 0) (e2 h1) (dl0 rfl rfl hx) (Or.inl rfl)⟩
  · subst h2
    exact ⟨i32s (by omega) (by omega), h3.ok, h3.donex (ys := [v, u]) (t := 1) (e1 h1) (dl0 hv.1 hv.2 hx) (Or.inl rfl)⟩

theorem x_MM_item {x : Int} (hx : x = 50 ∨ x = 51 ∨ x = 53 ∨ x = 54 ∨ x = 56 ∨ x = 57 ∨ x = 58 ∨ x = 59 ∨ x = 60) (hn : i32 nx) (hO : mOk M) (h : Wd M a) (hs : St M (a + 11) st) (hl : st.length ≤ 700) (h1 : -900 ≤ mI M a 7) (h2 : mI M a 7 ≤ 900) : Ci G y_MM_item (d + 3) [vr a, vi x, vi nx] M (pQx M a st x nx) := by
  have s0 := SI.start hO h hs
  refine k_MM_item hO (by rcases hx with q | q | q | q | q | q | q | q | q <;> rw [q] <;> exact i32s (by omega) (by omega)) hn ⟨fun w => ⟨s0.k, ?_⟩, fun w50 => ⟨fun w => ⟨s0.k, ?_⟩, fun w51 => ⟨fun w => ?_, fun w53 => ⟨fun w => ?_, fun w54 => ⟨fun w => ⟨s0.k, ?_⟩, fun w56 => ⟨fun w => ?_, fun w57 => ⟨fun w => ?_, fun w58 => ⟨fun w => ?_, fun w60 => ⟨s0.k, ?_⟩⟩⟩⟩⟩⟩⟩⟩⟩
  · subst w
    refine (x_MM_anItem (d := d) hn hO h hs hl).mono (fun r M2 h2 => ⟨?_, h2.1.1.1, h2⟩)
    rcases h2.1.2.2 with q | ⟨ys, t, e, q, -⟩
    · rw [q]; exact i32s (by omega) (by omega)
    · have c := ex_chk e
      unfold chk at c
      simp only [Bool.and_eq_true, decide_eq_true_eq] at c
      exact i32s (by omega) (by omega)
  · subst w
    refine (s_MM_want (d := d + 1) s0 (by omega) (i32s (by omega) (by omega)) (i32s (by omega) (by omega)) (i32s (by omega) (by omega))).mono (fun M2 h2 => ⟨h2.ok, h2.donex (ys := [1, 23, 61]) (t := 0) rfl (dl0 (by decide) (by decide) (by omega)) (Or.inl rfl)⟩)
  · subst w
    have e0 : ex 53 nx = ex53 nx := rfl
    unfold ex53 at e0
    refine ⟨fun w => ?_, fun w => ⟨s0.k, (s_MM_want (d := d + 1) s0 (by omega) (i32s (by omega) (by omega)) (i32s (by omega) (by omega)) (i32s (by omega) (by omega))).mono (fun M2 h2 => ⟨h2.ok, ?_⟩)⟩⟩
    · rw [if_pos w] at e0
      exact s0.donex (ys := []) (t := 1) e0 (dl0 rfl rfl (by omega)) (Or.inl rfl)
    · rw [if_neg w] at e0
      exact h2.donex (ys := [61, 16, 61]) (t := 0) e0 (dl0 (by decide) (by decide) (by omega)) (Or.inl rfl)
  · subst w
    have e0 : ex 54 nx = ex54 nx := rfl
    unfold ex54 at e0
    rw [s0.r6]
    refine ⟨fun w => ⟨s0.k, s0.k6, (s0.push (by omega) (i32s (by omega) (by omega))).mono (fun M2 h2 => ⟨h2.ok, ?_⟩)⟩, fun w => ?_⟩
    · rw [if_pos w] at e0
      exact h2.donex (ys := [61]) (t := 1) e0 (dl0 (by decide) (by decide) (by omega)) (Or.inl rfl)
    · rw [if_neg w] at e0
      exact s0.donex (ys := []) (t := 0) e0 (dl0 rfl rfl (by omega)) (Or.inl rfl)
  · subst w
    refine (s_MM_want (d := d + 1) s0 (by omega) (i32s (by omega) (by omega)) (i32s (by omega) (by omega)) (i32s (by omega) (by omega))).mono (fun M2 h2 => ⟨h2.ok, h2.donex (ys := [63, 33, 58]) (t := 0) rfl (dl0 (by decide) (by decide) (by omega)) (Or.inl rfl)⟩)
  · subst w
    intro v hv
    have e0 : ex 57 nx = ex57 nx := rfl
    unfold ex57 at e0
    refine ⟨s0.k, (s_MM_again (d := d + 1) s0 (by omega) (by split at hv <;> exact i32s (by omega) (by omega)) (i32s (by omega) (by omega)) (i32s (by omega) (by omega))).mono (fun r M3 h3 => ag_donex s0 (by omega) (by decide) (fun w => ?_) (fun w => ?_) h3)⟩
    · rw [if_pos (by split at hv <;> omega)] at e0; exact e0
    · rw [if_neg (by split at hv <;> omega)] at e0; exact e0
  · subst w
    have e0 : ex 58 nx = ex58 nx := rfl
    unfold ex58 at e0
    rw [s0.r6]
    refine ⟨fun w => ?_, fun w => ⟨s0.k, s0.k6, s0.two (by omega) (i32s (by omega) (by omega)) (i32s (by omega) (by omega)) (fun M3 h3 => ?_)⟩⟩
    · rw [if_pos w] at e0
      exact s0.donex (ys := []) (t := 1) e0 (dl0 rfl rfl (by omega)) (Or.inl rfl)
    · rw [if_neg w] at e0
      exact h3.donex (ys := [59, 60]) (t := 0) e0 (dl0 (by decide) (by decide) (by omega)) (Or.inl rfl)
  · subst w
    intro v hv
    have e0 : ex 60 nx = ex60 nx := rfl
    unfold ex60 at e0
    refine ⟨s0.k, (s_MM_again (d := d + 1) s0 (by omega) (by split at hv <;> exact i32s (by omega) (by omega)) (i32s (by omega) (by omega)) (i32s (by omega) (by omega))).mono (fun r M3 h3 => ag_donex s0 (by omega) (by decide) (fun w => ?_) (fun w => ?_) h3)⟩
    · rw [if_pos (by split at hv <;> omega)] at e0; exact e0
    · rw [if_neg (by split at hv <;> omega)] at e0; exact e0
  · have w59 : x = 59 := by omega
    subst w59
    refine (x_MM_set0 (d := d) hn hO h hs hl h1 h2).mono (fun r M2 h2 => ⟨?_, h2.1.1.1, h2⟩)
    rcases h2.1.2.2 with q | ⟨ys, t, e, q, -⟩
    · rw [q]; exact i32s (by omega) (by omega)
    · have c := ex_chk e
      unfold chk at c
      simp only [Bool.and_eq_true, decide_eq_true_eq] at c
      exact i32s (by omega) (by omega)

theorem x_MM_sign (hn : i32 nx) (hO : mOk M) (h : Wd M a) (hs : St M (a + 11) st) (hl : st.length ≤ 700) (h1 : -900 ≤ mI M a 7) (h2 : mI M a 7 ≤ 900) : Ci G y_MM_sign (d + 2) [vr a, vi nx] M (pQx M a st 73 nx) := by
  have s0 := SI.start hO h hs
  have e0 : ex 73 nx = ex73 nx := rfl
  unfold ex73 at e0
  refine k_MM_sign hO hn ⟨fun w1 => ?_, fun w1 => ⟨fun w2 => ?_, fun w2 => ⟨fun w3 => ?_, fun w3 => ⟨fun w4 => ?_, fun w4 => s0.fail0 (by rw [if_neg w1, if_neg w2, if_neg w3, if_neg w4] at e0; exact e0)⟩⟩⟩⟩
  · rw [if_pos w1] at e0
    exact s0.donex (ys := []) (t := 1) e0 (dl0 rfl rfl (by omega)) (Or.inl rfl)
  · rw [if_neg w1, if_pos w2] at e0
    rw [s0.r6]
    refine ⟨s0.k, s0.k6, (s0.push (by omega) (i32s (by omega) (by omega))).mono (fun M2 h2 => ?_)⟩
    rw [h2.r6]
    refine ⟨h2.ok, h2.k, h2.k6, (h2.push (by simp only [List.length_cons]; omega) (i32s (by omega) (by omega))).mono (fun M3 h3 => ?_)⟩
    rw [h3.r6]
    refine ⟨h3.ok, h3.k, h3.k6, (h3.push (by simp only [List.length_cons]; omega) (i32s (by omega) (by omega))).mono (fun M4 h4 => ?_)⟩
    rw [h4.r6]
    refine ⟨h4.ok, h4.k, h4.k6, (h4.push (by simp only [List.length_cons]; omega) (i32s (by omega) (by omega))).mono (fun M5 h5 => ?_)⟩
    rw [h5.r6]
    refine ⟨h5.ok, h5.k, h5.k6, (h5.push (by simp only [List.length_cons]; omega) (i32s (by omega) (by omega))).mono (fun M6 h6 => ⟨h6.ok, ?_⟩)⟩
    exact h6.donex (ys := [76, 61, 74, 37, 75]) (t := 1) e0 (by unfold dlv; rw [show c75 [76, 61, 74, 37, 75] = 1 by decide, show c76 [76, 61, 74, 37, 75] = 1 by decide, if_neg (by omega)]; omega) (Or.inl rfl)
  · rw [if_neg w1, if_neg w2, if_pos w3] at e0
    rw [s0.r6]
    refine ⟨s0.k, s0.k6, s0.two (by omega) (i32s (by omega) (by omega)) (i32s (by omega) (by omega)) (fun M3 h3 => ⟨h3.k, (h3.levelx (by omega) (by omega)).mono (fun r M4 h4 => ?_)⟩)⟩
    obtain ⟨h4, r1, r2, r3⟩ := h4
    refine ⟨i32s (by omega) (by omega), h4.ok, fun v hv => ?_⟩
    by_cases q : r = 0
    · rw [if_pos q] at hv; subst hv; exact h4.fail1 e0 (by decide) (r3 q)
    · rw [if_neg q] at hv; subst hv
      exact h4.donex (ys := [73, 75]) (t := 1) e0 (dl1 (by decide) (by decide) (by omega)) (Or.inr (r2 q))
  · rw [if_neg w1, if_neg w2, if_neg w3, if_pos w4] at e0
    rw [s0.r6]
    refine ⟨s0.k, s0.k6, (s0.push (by omega) (i32s (by omega) (by omega))).mono (fun M2 h2 => ?_)⟩
    rw [h2.r6]
    refine ⟨h2.ok, h2.k, h2.k6, h2.two (by simp only [List.length_cons]; omega) (i32s (by omega) (by omega)) (i32s (by omega) (by omega)) (fun M3 h3 => ⟨h3.k, (h3.levelx (by omega) (by omega)).mono (fun r M4 h4 => ?_)⟩)⟩
    obtain ⟨h4, r1, r2, r3⟩ := h4
    refine ⟨i32s (by omega) (by omega), h4.ok, fun v hv => ?_⟩
    by_cases q : r = 0
    · rw [if_pos q] at hv; subst hv; exact h4.fail1 e0 (by decide) (r3 q)
    · rw [if_neg q] at hv; subst hv
      exact h4.donex (ys := [61, 37, 75]) (t := 1) e0 (dl1 (by decide) (by decide) (by omega)) (Or.inr (r2 q))

theorem x_MM_rule0 {x : Int} (hx : x = 61 ∨ x = 62 ∨ x = 63 ∨ x = 64 ∨ x = 65 ∨ x = 66 ∨ x = 67 ∨ x = 68 ∨ x = 69 ∨ x = 70 ∨ x = 71 ∨ x = 72 ∨ x = 73 ∨ x = 74 ∨ x = 76) (hn : i32 nx) (hO : mOk M) (h : Wd M a) (hs : St M (a + 11) st) (hl : st.length ≤ 700) (h1 : -900 ≤ mI M a 7) (h2 : mI M a 7 ≤ 900) : Ci G y_MM_rule0 (d + 3) [vr a, vi x, vi nx] M (pQx M a st x nx) := by
  have s0 := SI.start hO h hs
  have hxb : 61 ≤ x ∧ x ≤ 76 := by omega
  have i2 : ∀ u : Int, 0 ≤ u → u ≤ 100 → i32 u := fun u a b => i32s (by omega) (by omega)
  refine k_MM_rule0 hO (i32s (by omega) (by omega)) hn ⟨fun w => ?_, fun n1 => ⟨fun w => ?_, fun n2 => ⟨fun w => ?_, fun n3 => ⟨fun w => ?_, fun n4 => ⟨fun w => ?_, fun n5 => ⟨fun w => ?_, fun n6 => ⟨fun w => ?_, fun n7 => ⟨fun w => ?_, fun n8 => ⟨fun w => ?_, fun n9 => ⟨fun w => ?_, fun n10 => ⟨fun w => ?_, fun n11 => ⟨fun w => ?_, fun n12 => ⟨fun w => ?_, fun n13 => ⟨fun w => ?_, fun n14 => ?_⟩⟩⟩⟩⟩⟩⟩⟩⟩⟩⟩⟩⟩⟩
  · subst w
    rw [s0.r6]
    exact ⟨s0.k, s0.k6, s0.two (by omega) (i2 _ (by omega) (by omega)) (i2 _ (by omega) (by omega)) (fun M3 h3 => h3.donex (ys := [63, 62]) (t := 0) rfl (dl0 (by decide) (by decide) (by omega)) (Or.inl rfl))⟩
  · subst w
    have e0 : ex 62 nx = ex62 nx := rfl
    unfold ex62 at e0
    refine ⟨fun w => ⟨s0.k, (x_MM_ask (d := d) s0 (by omega) (by omega) (by omega)).mono (fun r M2 h2 => ?_)⟩, fun w => ?_⟩
    · obtain ⟨h2, hr⟩ := h2
      rw [if_pos w] at e0
      rcases hr with ⟨q, q2⟩ | ⟨q, q2⟩
      · subst q
        exact ⟨i32s (by omega) (by omega), h2.ok, k_MM_rule0_114 h2.ok (i32s (by omega) (by omega)) (h2.fail1 e0 (by decide) q2)⟩
      · subst q
        exact ⟨i32s (by omega) (by omega), h2.ok, k_MM_rule0_114 h2.ok (i32s (by omega) (by omega)) (h2.donex (ys := [61, 33, 61, 75]) (t := 1) e0 (dl1 (by decide) (by decide) (by omega)) (Or.inr q2))⟩
    · rw [if_neg w] at e0
      exact k_MM_rule0_114 s0.ok (i32s (by omega) (by omega)) (s0.donex (ys := []) (t := 0) e0 (dl0 rfl rfl (by omega)) (Or.inl rfl))
  · subst w
    rw [s0.r6]
    exact ⟨s0.k, s0.k6, s0.two (by omega) (i2 _ (by omega) (by omega)) (i2 _ (by omega) (by omega)) (fun M3 h3 => h3.donex (ys := [65, 64]) (t := 0) rfl (dl0 (by decide) (by decide) (by omega)) (Or.inl rfl))⟩
  · subst w
    intro v hv
    have e0 : ex 64 nx = ex64 nx := rfl
    unfold ex64 at e0
    refine ⟨s0.k, (s_MM_again (d := d + 1) s0 (by omega) (by split at hv <;> exact i32s (by omega) (by omega)) (i2 _ (by omega) (by omega)) (i2 _ (by omega) (by omega))).mono (fun r M3 h3 => ag_donex s0 (by omega) (by decide) (fun w => ?_) (fun w => ?_) h3)⟩
    · rw [if_pos (by split at hv <;> omega)] at e0; exact e0
    · rw [if_neg (by split at hv <;> omega)] at e0; exact e0
  · subst w
    rw [s0.r6]
    exact ⟨s0.k, s0.k6, s0.two (by omega) (i2 _ (by omega) (by omega)) (i2 _ (by omega) (by omega)) (fun M3 h3 => h3.donex (ys := [67, 66]) (t := 0) rfl (dl0 (by decide) (by decide) (by omega)) (Or.inl rfl))⟩
  · subst w
    intro v hv
    have e0 : ex 66 nx = ex66 nx := rfl
    unfold ex66 at e0
    refine ⟨s0.k, (s_MM_again (d := d + 1) s0 (by omega) (by split at hv <;> exact i32s (by omega) (by omega)) (i2 _ (by omega) (by omega)) (i2 _ (by omega) (by omega))).mono (fun r M3 h3 => ag_donex s0 (by omega) (by decide) (fun w => ?_) (fun w => ?_) h3)⟩
    · rw [if_pos (by split at hv <;> omega)] at e0; exact e0
    · rw [if_neg (by split at hv <;> omega)] at e0; exact e0
  · subst w
    have e0 : ex 67 nx = ex67 nx := rfl
    unfold ex67 at e0
    rw [s0.r6]
    refine ⟨fun w => ⟨s0.k, s0.k6, s0.two (by omega) (i2 _ (by omega) (by omega)) (i2 _ (by omega) (by omega)) (fun M3 h3 => ⟨h3.k, (h3.levelx (by omega) (by omega)).mono (fun r M4 h4 => ?_)⟩)⟩, fun w => ⟨s0.k, s0.k6, s0.two (by omega) (i2 _ (by omega) (by omega)) (i2 _ (by omega) (by omega)) (fun M3 h3 => ?_)⟩⟩
    · obtain ⟨h4, r1, r2, r3⟩ := h4
      rw [if_pos w] at e0
      refine ⟨i32s (by omega) (by omega), h4.ok, fun v hv => ?_⟩
      by_cases q : r = 0
      · rw [if_pos q] at hv; subst hv; exact h4.fail1 e0 (by decide) (r3 q)
      · rw [if_neg q] at hv; subst hv
        exact h4.donex (ys := [67, 75]) (t := 1) e0 (dl1 (by decide) (by decide) (by omega)) (Or.inr (r2 q))
    · rw [if_neg w] at e0
      exact h3.donex (ys := [69, 68]) (t := 0) e0 (dl0 (by decide) (by decide) (by omega)) (Or.inl rfl)
  · subst w
    have e0 : ex 68 nx = ex68 nx := rfl
    unfold ex68 at e0
    refine (s_MM_isComparison hn hO).mono (fun r M2 h2 => ?_)
    obtain ⟨e2, r1, r2⟩ := h2
    subst e2
    rw [s0.r6]
    refine ⟨i32s (by omega) (by omega), hO, fun q => ?_, fun q => ⟨s0.k, s0.k6, (s0.push (by omega) (i2 _ (by omega) (by omega))).mono (fun M3 h3 => ⟨h3.ok, ?_⟩)⟩⟩
    · rw [if_neg (fun w => r2.2 w q)] at e0
      exact s0.donex (ys := []) (t := 0) e0 (dl0 rfl rfl (by omega)) (Or.inl rfl)
    · rw [if_pos (r2.1 q)] at e0
      exact h3.donex (ys := [69]) (t := 1) e0 (dl0 (by decide) (by decide) (by omega)) (Or.inl rfl)
  · subst w
    rw [s0.r6]
    exact ⟨s0.k, s0.k6, s0.two (by omega) (i2 _ (by omega) (by omega)) (i2 _ (by omega) (by omega)) (fun M3 h3 => h3.donex (ys := [71, 70]) (t := 0) rfl (dl0 (by decide) (by decide) (by omega)) (Or.inl rfl))⟩
  · subst w
    intro v hv
    have e0 : ex 70 nx = ex70 nx := rfl
    unfold ex70 at e0
    refine ⟨s0.k, (s_MM_again (d := d + 1) s0 (by omega) (by split at hv <;> exact i32s (by omega) (by omega)) (i2 _ (by omega) (by omega)) (i2 _ (by omega) (by omega))).mono (fun r M3 h3 => ag_donex s0 (by omega) (by decide) (fun w => ?_) (fun w => ?_) h3)⟩
    · rw [if_pos (by split at hv <;> omega)] at e0; exact e0
    · rw [if_neg (by split at hv <;> omega)] at e0; exact e0
  · subst w
    rw [s0.r6]
    exact ⟨s0.k, s0.k6, s0.two (by omega) (i2 _ (by omega) (by omega)) (i2 _ (by omega) (by omega)) (fun M3 h3 => h3.donex (ys := [73, 72]) (t := 0) rfl (dl0 (by decide) (by decide) (by omega)) (Or.inl rfl))⟩
  · subst w
    intro v hv
    have e0 : ex 72 nx = ex72 nx := rfl
    unfold ex72 at e0
    refine ⟨s0.k, (s_MM_again (d := d + 1) s0 (by omega) (by split at hv <;> exact i32s (by omega) (by omega)) (i2 _ (by omega) (by omega)) (i2 _ (by omega) (by omega))).mono (fun r M3 h3 => ag_donex s0 (by omega) (by decide) (fun w => ?_) (fun w => ?_) h3)⟩
    · rw [if_pos (by split at hv <;> omega)] at e0; exact e0
    · rw [if_neg (by split at hv <;> omega)] at e0; exact e0
  · subst w
    intro v hv
    have e0 : ex 74 nx = ex74 nx := rfl
    unfold ex74 at e0
    refine ⟨s0.k, (s_MM_again (d := d + 1) s0 (by omega) (by split at hv <;> exact i32s (by omega) (by omega)) (i2 _ (by omega) (by omega)) (i2 _ (by omega) (by omega))).mono (fun r M3 h3 => ag_donex s0 (by omega) (by decide) (fun w => ?_) (fun w => ?_) h3)⟩
    · rw [if_pos (by split at hv <;> omega)] at e0; exact e0
    · rw [if_neg (by split at hv <;> omega)] at e0; exact e0
  · subst w
    have e0 : ex 76 nx = ex76 nx := rfl
    unfold ex76 at e0
    refine ⟨fun w => ⟨s0.k, (s0.levelx (by omega) (by omega)).mono (fun r M4 h4 => ?_)⟩, fun w => k_MM_rule0_408 hO (i32s (by omega) (by omega)) (s0.fail0 (by rw [if_neg w] at e0; exact e0))⟩
    obtain ⟨h4, r1, r2, r3⟩ := h4
    rw [if_pos w] at e0
    exact ⟨i32s (by omega) (by omega), h4.ok, fun q => k_MM_rule0_408 h4.ok (i32s (by omega) (by omega)) (h4.fail1 e0 (by decide) (r3 q)), fun q => k_MM_rule0_408 h4.ok (i32s (by omega) (by omega)) (h4.donex (ys := []) (t := 1) e0 (by unfold dlv; rw [if_pos rfl]; show _ = _ + (((0 : Nat) : Int) - ((0 : Nat) : Int) + 1); omega) (Or.inr (r2 q)))⟩
  · have w : x = 73 := by omega
    subst w
    exact ⟨s0.k, (x_MM_sign (d := d) hn hO h hs hl h1 h2).mono (fun r M2 h2 => ⟨pq_i32 h2.1, h2.1.1.1, h2⟩)⟩

end PIX
end
section
/-! The reference: readText, exactly. -/
/-- what readText tells -/
def rdV (M : mM) (a N : Nat) (v : Int) (M' : mM) : Prop := (v = 0 ∧ ∃ q : Nat, mI M' a 8 = q ∧ ∀ W : Nat → Int, (∀ j, j < N → W j = nt M (a + 5) j) → Rf W [50] 0 q) ∨ (v = 1 ∧ ∀ W : Nat → Int, (∀ j, j < N → W j = nt M (a + 5) j) → Rc W [50] 0 [] N)
section RTX
variable {G : mG} {d a : Nat} {M : mM} {N : Nat}
theorem slv_cons {M : mM} {a : Nat} {st : List Int} (h : mI M a 7 = (c75 st : Int) - c76 st) : slv st = mI M a 7 := h.symm
theorem x_MM_readText (hO : mOk M) (h : Wd M a) (hw : wrds M a N) : Ci G y_MM_readText (d + 4) [vr a] M (fun v M' => rdQ M a N v M' ∧ rdV M a N v M') := by
  obtain ⟨n1, n2, n3, n4, n5⟩ := hw
  have i5 : a + 5 ∈ nums a := nums_o (by decide)
  refine k_MM_readText hO ?_
  rw [h.1.2.2.1.2.2.2]
  refine ⟨h.1.1, (h.nu q11).1, fun M1 e1 M2 e2 M3 e3 => ?_⟩
  obtain ⟨m1, l1, -⟩ := mv_set hO h q11 (v := 0) (by omega) (h.nu q11).2.2.2.1.1 e1
  have w1 := m1.2.1
  have f1 := (m1.fld h (fun q hq => by rw [hq]; exact q11) (fun hq => hq)).1
  have r1 : rdI M a M1 := ⟨m1.mono (fun q hq => hq) (fun x hx => hx.elim) (fun q hq => by rw [hq]; exact h.lt q11), fun j _ _ => by rw [f1]⟩
  obtain ⟨r2, f2, s2⟩ := r1.fld (i32s (by omega) (by omega)) (Or.inl rfl) e2
  obtain ⟨r3, f3, s3⟩ := r2.fld (i32s (by omega) (by omega)) (Or.inr rfl) e3
  have w3 := r3.1.2.1
  have l3 : ln M3 (a + 11) = 0 := by rw [(s3 _ q11).1, (s2 _ q11).1]; exact l1
  rw [w3.1.2.2.1.2.2.2]
  refine ⟨(w3.nu q11).1, (s_MN_add (i32s (by omega) (by omega)) r3.1.1 (w3.nu q11) (by omega)).mono (fun M4 t4 => ?_)⟩
  have m4 := mv_add w3 q11 t4
  have f4 := (m4.fld w3 (fun q hq => by rw [hq]; exact q11) (fun hq => hq)).1
  have r4 : rdI M a M4 := ⟨r3.1.trans (m4.mono (fun q hq => hq) (fun x hx => hx.elim) (fun q hq => by rw [hq]; exact w3.lt q11)), fun j j7 j8 => by rw [f4]; exact r3.2 j j7 j8⟩
  have st4 : St M4 (a + 11) [50] := St.add (st := []) ⟨l3, fun i hi => by simp at hi⟩ t4
  refine ⟨m4.1, ?_⟩
  -- a wrong word ends it
  have hbad : ∀ (M5 : mM) (k : Nat), rdI M a M5 → 0 ≤ mI M5 a 8 → mI M5 a 8 < N → k ≤ 20000 → (∃ q : Nat, mI M5 a 8 = q ∧ ∀ W : Nat → Int, (∀ j, j < N → W j = nt M (a + 5) j) → Rf W [50] 0 q) → h_MM_readText_29 G (d + 3) a k M5 (fun v M' => rdQ M a N v M' ∧ rdV M a N v M') := fun M5 k r5 b0 b1 hk hq => by
    refine k_MM_readText_29 r5.1.1 (i32s (by omega) (by omega)) ⟨r5.1.2.1.1.1, fun q => absurd b0 q, fun _ v hv => ?_, fun q => absurd (Or.inl b0) q⟩
    rw [if_pos b0] at hv
    exact ⟨⟨r5, Or.inl ⟨hv, b0, b1⟩⟩, Or.inl ⟨hv, hq⟩⟩
  suffices H : ∀ (μ k : Nat) (st : List Int) (M5 : mM), (N - k) * 40 + swt st ≤ μ → rdI M a M5 → mI M5 a 8 = -1 → St M5 (a + 11) st → gdS st → mI M5 a 7 = (c75 st : Int) - c76 st → mI M5 a 7 ≤ 40 → ((st = [] ∧ k = N ∧ nt M (a + 5) (N - 1) = 0) ∨ (k < N ∧ ∃ s, st = s ++ [50] ∧ 50 ∉ s)) → (∀ f, Ac (nt M (a + 5)) N f st k → ∃ f', Ac (nt M (a + 5)) N f' [50] 0) → (∀ W : Nat → Int, (∀ j, j < N → W j = nt M (a + 5) j) → Rc W [50] 0 st k) → h_MM_readText_29 G (d + 3) a k M5 (fun v M' => rdQ M a N v M' ∧ rdV M a N v M') by
    refine H _ 0 [50] M4 (Nat.le_refl _) r4 (by rw [f4, f3, if_pos rfl]) st4 ⟨⟨by decide, trivial⟩, fun x hx => by rw [List.mem_singleton.1 hx]; decide, by decide⟩ (by rw [f4, f3, if_neg (by omega), f2, if_pos rfl]; rfl) (by rw [f4, f3, if_neg (by omega), f2, if_pos rfl]; omega) (Or.inr ⟨by omega, [], rfl, by simp⟩) (fun f hf => ⟨f, hf⟩) (fun _ _ => Rc.refl)
  intro μ
  induction μ with
  | zero =>
    intro k st M5 hμ r5 b5 s5 g5 l5 l4 bt ac rc
    rcases bt with ⟨e1, e2, e3⟩ | ⟨e1, -⟩
    · subst e1
      refine k_MM_readText_29 r5.1.1 (i32s (by omega) (by omega)) ?_
      have w5 := r5.1.2.1
      rw [w5.1.2.2.1.2.2.2]
      refine ⟨w5.1.1, fun _ => (w5.nu q11).1, fun _ v hv => ?_, fun q => absurd (Or.inr (by have := s5.1; exact Int.le_of_eq this)) q⟩
      rw [if_neg (by omega)] at hv
      exact ⟨⟨r5, Or.inr ⟨hv, e3, ac 0 ⟨rfl, e2⟩⟩⟩, Or.inr ⟨hv, fun W hW => by have := rc W hW; rw [e2] at this; exact this⟩⟩
    · omega
  | succ μ ih =>
    intro k st M5 hμ r5 b5 s5 g5 l5 l4 bt ac rc
    have w5 := r5.1.2.1
    have o5 := r5.1.1
    cases st with
    | nil =>
      rcases bt with ⟨-, e2, e3⟩ | ⟨-, s, e2, -⟩
      · refine k_MM_readText_29 o5 (i32s (by omega) (by omega)) ?_
        rw [w5.1.2.2.1.2.2.2]
        refine ⟨w5.1.1, fun _ => (w5.nu q11).1, fun _ v hv => ?_, fun q => absurd (Or.inr (by have := s5.1; exact Int.le_of_eq this)) q⟩
        rw [if_neg (by omega)] at hv
        exact ⟨⟨r5, Or.inr ⟨hv, e3, ac 0 ⟨rfl, e2⟩⟩⟩, Or.inr ⟨hv, fun W hW => by have := rc W hW; rw [e2] at this; exact this⟩⟩
      · exact absurd e2 (by simp)
    | cons x r =>
      obtain ⟨hkN, s, hs1, hs2⟩ : k < N ∧ ∃ s, x :: r = s ++ [50] ∧ 50 ∉ s := by
        rcases bt with ⟨e1, -, -⟩ | w
        · exact absurd e1 (by simp)
        · exact w
      have hlen := g5.len l5 l4
      have hxs := g5.2.1 x (List.mem_cons_self ..)
      have hxb := sgs_b x hxs
      -- the rest of the pile, where x is not the bottom
      have hrest : x ≠ 50 → ∃ s', r = s' ++ [50] ∧ 50 ∉ s' := fun hx => by
        cases s with
        | nil =>
          have : x = 50 := by
            have := hs1
            simp at this
            exact this.1
          exact absurd this hx
        | cons y s' =>
          rw [List.cons_append] at hs1
          obtain ⟨-, e⟩ := List.cons.inj hs1
          exact ⟨s', e, fun q => hs2 (List.mem_cons_of_mem _ q)⟩
      have hbot : x = 50 → r = [] := fun hx => by
        cases s with
        | nil =>
          have := hs1
          simp at this
          exact this.2
        | cons y s' =>
          rw [List.cons_append] at hs1
          obtain ⟨e, -⟩ := List.cons.inj hs1
          exact absurd (by rw [← e, hx]; exact List.mem_cons_self ..) hs2
      have sN := r5.1.2.2.2.2 (a + 5) i5 (by omega)
      have el : mI M5 (a + 11) 1 = (r.length : Int) + 1 := by have := s5.1; rw [List.length_cons] at this; unfold ln at this; omega
      refine k_MM_readText_29 o5 (i32s (by omega) (by omega)) ?_
      rw [w5.1.2.2.1.2.2.2, el, b5]
      refine ⟨w5.1.1, fun _ => (w5.nu q11).1, fun q => by omega, fun _ => ⟨(w5.nu q11).1, (s_MN_take o5 (w5.nu q11) (by have := s5.1; rw [List.length_cons] at this; omega)).mono (fun y M6 t6 => ?_)⟩⟩
      obtain ⟨s6, ey⟩ := s5.take t6
      subst ey
      have m6 := mv_take w5 q11 t6
      have w6 := m6.2.1
      have f6 := (m6.fld w5 (fun q hq => by rw [hq]; exact q11) (fun hq => hq)).1
      have sN6 := m6.2.2.2.2 (a + 5) i5 (by omega)
      have r6 : rdI M a M6 := ⟨r5.1.trans (m6.mono (fun q hq => hq) (fun z hz => hz.elim) (fun q hq => by rw [hq]; exact w5.lt q11)), fun j j7 j8 => by rw [f6]; exact r5.2 j j7 j8⟩
      rw [w6.1.2.2.1.1]
      refine ⟨i32s (by omega) (by omega), t6.1, w6.1.1, (w6.nu i5).1, (s_MN_at t6.1 (w6.nu i5) (by rw [sN6.1, sN.1, n3]; omega)).mono (fun nx M7 h7 => ?_)⟩
      obtain ⟨e7, hnx⟩ := h7
      subst e7
      rw [sN6.2.1, sN.2.1] at hnx
      have hnx32 : i32 nx := by rw [hnx]; exact (hO _ _).1
      have o7 := t6.1
      refine ⟨hnx32, o7, fun x75 => ?_, fun x75 => ⟨fun x50 => ?_, fun x50 => ?_⟩⟩
      · -- a level ends
        rw [f6]
        refine ⟨w6.1.1, i32s (by omega) (by omega), fun M8 e8 => ?_⟩
        obtain ⟨r8, f8, s8⟩ := r6.fld (i32s (by omega) (by omega)) (Or.inl rfl) e8
        have c1 : c75 (y :: r) = 1 + c75 r := by show (if y = 75 then 1 else 0) + c75 r = _; rw [if_pos x75]
        have c2 : c76 (y :: r) = c76 r := by show (if y = 76 then 1 else 0) + c76 r = _; rw [if_neg (by omega)]; omega
        refine ih k r M8 ?_ r8 (by rw [f8, if_neg (by omega), f6]; exact b5) (s6.same (s8 _ q11)) ⟨g5.1.2, fun z hz => g5.2.1 z (List.mem_cons_of_mem _ hz), fun q => g5.2.2 (List.mem_of_mem_tail q)⟩ (by rw [f8, if_pos rfl]; omega) (by rw [f8, if_pos rfl]; omega) (Or.inr ⟨hkN, hrest (by omega)⟩) (fun f hf => ac (f + 1) ?_) (fun W hW => (rc W hW).trans (Rc.zero (by rw [x75]; exact mst_75)))
        · have e : swt (y :: r) = wgt y + swt r := rfl
          have := wgt_pos (x := y)
          omega
        · show (if y = 75 then Ac _ N f r k else _)
          rw [if_pos x75]
          exact hf
      · -- a step of the grammar
        have hpq : ∀ (rr : Int) (M8 : mM), pQx M7 a r y nx rr M8 → h_MM_readText_129 G (d + 3) a k rr M8 (fun v M' => rdQ M a N v M' ∧ rdV M a N v M') := fun rr M8 p8 => by
          obtain ⟨⟨m8, f8, pr⟩, pf⟩ := p8
          have sl : slv (y :: r) = mI M7 a 7 := by rw [f6]; exact slv_cons l5
          have r8 : rdI M a M8 := ⟨r6.1.trans m8, fun j j7 j8 => by rw [f8 j j7]; exact r6.2 j j7 j8⟩
          have b8 : mI M8 a 8 = -1 := by rw [f8 8 (by omega), f6]; exact b5
          have hrr : i32 rr := by
            rcases pr with q | ⟨ys, t, e, q, -⟩
            · rw [q]; exact i32s (by omega) (by omega)
            · have := (g5.step e).2.1
              exact i32s (by omega) (by omega)
          refine k_MM_readText_129 m8.1 (i32s (by omega) (by omega)) hrr (fun v hv => ⟨m8.2.1.1.1, fun M9 e9 u hu => ?_⟩)
          obtain ⟨r9, f9, s9⟩ := r8.fld (v := v) (by split at hv <;> exact i32s (by omega) (by omega)) (Or.inr rfl) e9
          have b9 : mI M9 a 8 = v := by rw [f9, if_pos rfl]
          rcases pr with q | ⟨ys, t, e, q, sY, l8, l8'⟩
          · subst q
            rw [if_neg (by omega)] at hv
            rw [if_pos (by omega)] at hu
            subst hu
            exact hbad M9 k r9 (by omega) (by omega) (by omega) ⟨k, by rw [b9]; exact hv, fun W hW => (rc W hW).rf (Rf.of (by
              rw [hW k hkN, ← hnx]
              rcases pf rfl with pf | ⟨ys, t, p1, p2, p3⟩
              · exact mst_no x50 x75 pf
              · exact mst_deep x50 x75 p1 p2 (by rw [sl]; exact p3)))⟩
          · subst q
            obtain ⟨gd, t01, wt, h50, hn50⟩ := g5.step e
            rw [if_pos (by omega)] at hv
            have l9 : mI M9 a 7 = mI M8 a 7 := by rw [f9, if_neg (by omega)]
            have hu' : u = ((k + t : Nat) : Int) := by
              rcases t01 with z | z
              · rw [if_pos (by omega)] at hu; omega
              · rw [if_neg (by omega)] at hu; omega
            rw [hu']
            have hlast : t = 1 → k + 1 = N → y = 50 ∧ nx = 0 ∧ ys = [] := fun z1 z2 => by
              subst z1
              refine ex_t1 e ?_
              rw [hnx, show k = N - 1 by omega]
              exact n5
            refine ih (k + t) (ys ++ r) M9 ?_ r9 (by omega) (sY.same (s9 _ q11)) gd ?_ (by rw [l9]; rcases l8' with z | z; rw [z, f6]; exact l4; exact z) ?_ (fun f hf => ac (f + 1) ?_) (fun W hW => (rc W hW).trans (Rc.one (mst_n x50 x75 (by rw [hW k hkN, ← hnx]; exact e) (by
              rw [sl]
              by_cases dd : dlv y ys = 1
              · right
                rw [dd] at l8
                rcases l8' with z | z
                · omega
                · omega
              · exact Or.inl dd))))
            · have e1 : swt (y :: r) = wgt y + swt r := rfl
              rw [swt_app]
              rcases t01 with z | z <;> subst z <;> omega
            · rw [l9, l8, f6, l5, c75_app, c76_app]
              unfold dlv
              have e1 : c75 (y :: r) = (if y = 75 then 1 else 0) + c75 r := rfl
              have e2 : c76 (y :: r) = (if y = 76 then 1 else 0) + c76 r := rfl
              rw [if_neg x75] at e1
              by_cases z : y = 76
              · rw [if_pos z] at e2 ⊢
                omega
              · rw [if_neg z] at e2 ⊢
                omega
            · by_cases z : t = 1 ∧ k + 1 = N
              · obtain ⟨z1, z2, z3⟩ := hlast z.1 z.2
                left
                refine ⟨by rw [z3, hbot z1]; rfl, by omega, ?_⟩
                rw [show N - 1 = k by omega, ← hnx]
                exact z2
              · right
                refine ⟨by omega, ?_⟩
                by_cases y5 : y = 50
                · rcases h50 y5 with z1 | ⟨s', z1, z2⟩
                  · -- nothing is put down only at the end
                    exfalso
                    subst y5 z1
                    have he : ex 50 nx = ex50 nx := rfl
                    rw [he] at e
                    unfold ex50 at e
                    have hn0 : nx = 0 := by
                      refine Classical.byContradiction (fun hn => ?_)
                      rw [if_neg hn] at e
                      repeat' (first | (cases e; done) | (split at e))
                      all_goals cases e
                    have hk1 : k + 1 = N := by
                      refine Classical.byContradiction (fun hk => ?_)
                      have := n4 k (by omega)
                      omega
                    rw [if_pos hn0] at e
                    cases e
                    exact z ⟨rfl, hk1⟩
                  · rw [z1, hbot y5]
                    exact ⟨s', by simp, z2⟩
                · obtain ⟨s', z1, z2⟩ := hrest y5
                  refine ⟨ys ++ s', by rw [z1, List.append_assoc], fun w => ?_⟩
                  rcases List.mem_append.1 w with w | w
                  · exact hn50 y5 w
                  · exact z2 w
            · show (if y = 75 then _ else if y < 50 then _ else ∃ ys t, ex y (nt M (a + 5) k) = some (ys, t) ∧ Ac _ N f (ys ++ r) (k + t))
              rw [if_neg x75, if_neg (by omega), ← hnx]
              exact ⟨ys, t, e, hf⟩
        have c76r : c76 r = 0 := c76_no r g5.2.2
        have lv6 : mI M7 a 7 = mI M5 a 7 := by rw [f6]
        rw [List.length_cons] at hlen
        refine ⟨fun x61 => ⟨w6.1.1, (x_MM_rule0 (d := d) (sgs_rule y hxs x61 x75) hnx32 o7 w6 s6 (by omega) (by omega) (by omega)).mono (fun rr M8 p8 => ⟨pq_i32 p8.1, p8.1.1.1, hpq rr M8 p8⟩)⟩, fun x61 => ⟨w6.1.1, (x_MM_item (d := d) (sgs_item y hxs x50 (by omega)) hnx32 o7 w6 s6 (by omega) (by omega) (by omega)).mono (fun rr M8 p8 => ⟨pq_i32 p8.1, p8.1.1.1, hpq rr M8 p8⟩)⟩⟩
      · -- a word is wanted
        intro v hv
        refine ⟨w6.1.1, fun M8 e8 => ?_⟩
        obtain ⟨r8, f8, s8⟩ := r6.fld (v := v) (by split at hv <;> exact i32s (by omega) (by omega)) (Or.inr rfl) e8
        have b8 : mI M8 a 8 = v := by rw [f8, if_pos rfl]
        by_cases z : y = nx
        · rw [if_pos z] at hv
          have ht := sgs_term y hxs (by omega)
          have hk1 : k + 1 < N := by
            refine Classical.byContradiction (fun hk => ?_)
            rw [show k = N - 1 by omega] at hnx
            omega
          have c1 : c75 (y :: r) = c75 r := by show (if y = 75 then 1 else 0) + c75 r = _; rw [if_neg x75]; omega
          have c2 : c76 (y :: r) = c76 r := by show (if y = 76 then 1 else 0) + c76 r = _; rw [if_neg (by omega)]; omega
          have l8 : mI M8 a 7 = mI M5 a 7 := by rw [f8, if_neg (by omega), f6]
          refine ih (k + 1) r M8 ?_ r8 (by omega) (s6.same (s8 _ q11)) ⟨g5.1.2, fun z hz => g5.2.1 z (List.mem_cons_of_mem _ hz), fun q => g5.2.2 (List.mem_of_mem_tail q)⟩ (by omega) (by omega) (Or.inr ⟨hk1, hrest (by omega)⟩) (fun f hf => ac (f + 1) ?_) (fun W hW => (rc W hW).trans (Rc.one (mst_t (by omega) (by rw [hW k hkN, ← hnx]; exact z))))
          · have e : swt (y :: r) = wgt y + swt r := rfl
            have := wgt_pos (x := y)
            omega
          · show (if y = 75 then _ else if y < 50 then nt M (a + 5) k = y ∧ Ac _ N f r (k + 1) else _)
            rw [if_neg x75, if_pos (by omega)]
            exact ⟨by rw [← hnx, z], hf⟩
        · rw [if_neg z] at hv
          exact hbad M8 (k + 1) r8 (by omega) (by omega) (by omega) ⟨k, by rw [b8]; exact hv, fun W hW => (rc W hW).rf (Rf.of (mst_tn (by omega) (by rw [hW k hkN, ← hnx]; exact z)))⟩
end RTX
end
section
/-! The words of a text: pure. c its characters, n how many. -/
def blq (x : Int) : Prop := x = 9 ∨ x = 10 ∨ x = 13 ∨ x = 32
/-- behind blanks and remarks: f characters are left, b within a remark -/
noncomputable def skq (c : Nat → Int) : Nat → Bool → Nat → Nat
  | 0, _, i => i
  | f + 1, b, i => haveI := Classical.propDecidable (c i = 35 ∨ (b = true ∧ c i ≠ 10)); haveI := Classical.propDecidable (blq (c i)); if c i = 35 ∨ (b = true ∧ c i ≠ 10) then skq c f true (i + 1) else if blq (c i) then skq c f false (i + 1) else i
noncomputable def skp (c : Nat → Int) (n i : Nat) : Nat := skq c (n - i) false i
def isDq (x : Int) : Prop := 48 ≤ x ∧ x ≤ 57
def nmq (x : Int) : Prop := isL x ∨ isDq x ∨ x = 95
/-- the first place from i on, within f, where P fails -/
noncomputable def enq (P : Int → Prop) (c : Nat → Int) : Nat → Nat → Nat
  | 0, i => i
  | f + 1, i => haveI := Classical.propDecidable (P (c i)); if P (c i) then enq P c f (i + 1) else i
def lq (c : Nat → Int) (n i : Nat) : Int := if i < n then c i else 0
/-- a sign's kind, by it and the character behind it -/
def sgk (x y : Int) : Int := if x = 46 then (if y = 46 then 16 else 39) else if x = 45 then (if y = 62 then 17 else 25) else if x = 33 then (if y = 61 then 18 else 31) else if x = 60 then (if y = 61 then 19 else 21) else if x = 62 then (if y = 61 then 20 else 22) else if x = 61 then 23 else if x = 43 then 24 else if x = 42 then 26 else if x = 47 then 27 else if x = 37 then 28 else if x = 38 then 29 else if x = 124 then 30 else if x = 63 then 32 else if x = 58 then 33 else if x = 59 then 34 else if x = 44 then 35 else if x = 40 then 36 else if x = 41 then 37 else if x = 39 then 38 else 39
/-- where the word at i ends -/
noncomputable def weq (c : Nat → Int) (n i : Nat) : Nat :=
  haveI := Classical.propDecidable (isL (c i)); haveI := Classical.propDecidable (isDq (c i))
  if isL (c i) then enq nmq c (n - i) i else if isDq (c i) then enq isDq c (n - i) i else if 16 ≤ sgk (c i) (lq c n (i + 1)) ∧ sgk (c i) (lq c n (i + 1)) ≤ 20 then i + 2 else i + 1
/-- its kind; kw tells the kinds of names -/
noncomputable def wkq (kw : Nat → Nat → Int) (c : Nat → Int) (n i : Nat) : Int :=
  haveI := Classical.propDecidable (isL (c i)); haveI := Classical.propDecidable (isDq (c i))
  if isL (c i) then (if 40 < weq c n i - i then 39 else kw i (weq c n i)) else if isDq (c i) then (if 9 < weq c n i - i then 39 else 2) else sgk (c i) (lq c n (i + 1))
/-- where the j-th word begins -/
noncomputable def pwq (c : Nat → Int) (n : Nat) : Nat → Nat
  | 0 => skp c n 0
  | j + 1 => skp c n (weq c n (pwq c n j))
section WQQ
variable {c : Nat → Int} {n i : Nat} {f : Nat} {b : Bool} {P : Int → Prop}
theorem skq_rem (h : c i = 35 ∨ (b = true ∧ c i ≠ 10)) : skq c (f + 1) b i = skq c f true (i + 1) := by rw [skq, if_pos h]
theorem skq_bl (h : ¬ (c i = 35 ∨ (b = true ∧ c i ≠ 10))) (h2 : blq (c i)) : skq c (f + 1) b i = skq c f false (i + 1) := by
  rw [skq, if_neg h, if_pos h2]
theorem skq_end (h : ¬ (c i = 35 ∨ (b = true ∧ c i ≠ 10))) (h2 : ¬ blq (c i)) : skq c (f + 1) b i = i := by
  rw [skq, if_neg h, if_neg h2]
theorem skq_b : ∀ (f : Nat) (b : Bool) (i : Nat), i ≤ skq c f b i ∧ skq c f b i ≤ i + f
  | 0, _, i => ⟨Nat.le_refl _, Nat.le_refl _⟩
  | f + 1, b, i => by
    by_cases h : c i = 35 ∨ (b = true ∧ c i ≠ 10)
    · rw [skq_rem h]
      have := skq_b f true (i + 1)
      omega
    · by_cases h2 : blq (c i)
      · rw [skq_bl h h2]
        have := skq_b f false (i + 1)
        omega
      · rw [skq_end h h2]; omega
theorem skp_b (h : i ≤ n) : i ≤ skp c n i ∧ skp c n i ≤ n := by
  have := skq_b (c := c) (n - i) false i
  unfold skp
  omega
theorem enq_y (h : P (c i)) : enq P c (f + 1) i = enq P c f (i + 1) := by
  rw [enq, if_pos h]
theorem enq_n (h : ¬ P (c i)) : enq P c (f + 1) i = i := by
  rw [enq, if_neg h]
theorem enq_b : ∀ (f i : Nat), i ≤ enq P c f i ∧ enq P c f i ≤ i + f
  | 0, i => ⟨Nat.le_refl _, Nat.le_refl _⟩
  | f + 1, i => by
    by_cases h : P (c i)
    · rw [enq_y h]
      have := enq_b f (i + 1)
      omega
    · rw [enq_n h]; omega
theorem weq_b (h : i < n) : i < weq c n i ∧ weq c n i ≤ n := by
  unfold weq
  obtain ⟨m, hm⟩ : ∃ m, n - i = m + 1 := ⟨n - i - 1, by omega⟩
  by_cases h1 : isL (c i)
  · rw [if_pos h1, hm, enq_y (Or.inl h1)]
    have := enq_b (P := nmq) (c := c) m (i + 1)
    omega
  · rw [if_neg h1]
    by_cases h2 : isDq (c i)
    · rw [if_pos h2, hm, enq_y h2]
      have := enq_b (P := isDq) (c := c) m (i + 1)
      omega
    · rw [if_neg h2]
      split
      · rename_i q
        have hn : i + 1 < n := by
          refine Classical.byContradiction (fun z => ?_)
          have e : lq c n (i + 1) = 0 := if_neg z
          rw [e] at q
          unfold sgk at q
          (repeat' split at q) <;> omega
        omega
      · omega
end WQQ
end
