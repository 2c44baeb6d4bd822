section
section
/-! The reference: one step of the grammar, exactly. -/
/-- a step of the grammar, and why it fails where it fails -/
def pQx (M : mM) (a : Nat) (st : List Int) (x nx r : Int) (M' : mM) : Prop := pQ M a st x nx r M' ∧ (r = -1 → ex x nx = none ∨ ∃ ys t, ex x nx = some (ys, t) ∧ dlv x ys = 1 ∧ 40 ≤ mI M a 7)
section PIX
variable {G : mG} {d a : Nat} {M M2 : mM} {st : List Int} {lv nx : Int}
theorem SI.donex {x nx : Int} {ys : List Int} {t : Nat} (h : SI M a (ys ++ st) lv M2) (he : ex x nx = some (ys, t)) (hl : lv = mI M a 7 + dlv x ys) (h4 : lv = mI M a 7 ∨ lv ≤ 40) : pQx M a st x nx (t : Int) M2 := ⟨h.done he hl h4, fun q => by omega⟩
theorem SI.fail0 {x nx : Int} {st' : List Int} (h : SI M a st' lv M2) (he : ex x nx = none) : pQx M a st x nx (-1) M2 := ⟨h.fail, fun _ => Or.inl he⟩
theorem SI.fail1 {x nx : Int} {st' ys : List Int} {t : Nat} (h : SI M a st' lv M2) (he : ex x nx = some (ys, t)) (hd : dlv x ys = 1) (h4 : 40 ≤ mI M a 7) : pQx M a st x nx (-1) M2 := ⟨h.fail, fun _ => Or.inr ⟨ys, t, he, hd, h4⟩⟩
theorem SI.levelx (h : SI M a st lv M2) (h1 : -1000000 ≤ lv) (h2 : lv ≤ 1000000) : Ci G y_MM_level d [vr a] M2 (fun r M3 => SI M a st (lv + 1) M3 ∧ (r = 0 ∨ r = 1) ∧ (r ≠ 0 → lv + 1 ≤ 40) ∧ (r = 0 → 40 ≤ lv)) := by
  have hk := h.k
  obtain ⟨m, f, s, l⟩ := h
  have w := m.2.1
  refine k_MM_level m.1 ?_
  rw [l]
  refine ⟨hk, ⟨by omega, by omega⟩, fun M3 e3 v hv => ?_⟩
  obtain ⟨m3, f3⟩ := mv_fld ⟨by omega, by omega⟩ m.1 w e3
  have l3 : mI M3 a 7 = lv + 1 := by rw [f3, if_pos rfl]
  rw [l3] at hv
  have s3 := m3.2.2.2.2 _ q11 (fun hq => hq)
  exact ⟨⟨m.trans (m3.mono (fun q hq => hq.elim) (fun x hx => hx) (fun q hq => by rw [hq]; exact w.lt q11)), fun j hj => by rw [f3, if_neg hj]; exact f j hj, s.same s3, l3⟩, by split at hv <;> omega, fun q => by split at hv <;> omega, fun q => by split at hv <;> omega⟩

theorem x_MM_ask (h : SI M a st lv M2) (hl : st.length ≤ 800) (h1 : -1000 ≤ lv) (h2 : lv ≤ 1000) : Ci G y_MM_ask (d + 2) [vr a] M2 (fun r M3 => SI M a (61 :: 33 :: 61 :: 75 :: st) (lv + 1) M3 ∧ ((r = -1 ∧ 40 ≤ lv) ∨ (r = 1 ∧ lv + 1 ≤ 40))) := by
  refine k_MM_ask h.ok ?_
  rw [h.r6]
  refine ⟨h.k, h.k6, (h.push (by omega) ⟨by omega, by omega⟩).mono (fun M3 h3 => ⟨h3.ok, h3.k, (s_MM_want (d := d) h3 (by rw [List.length_cons]; omega) ⟨by omega, by omega⟩ ⟨by omega, by omega⟩ ⟨by omega, by omega⟩).mono (fun M4 h4 => ⟨h4.ok, h4.k, (h4.levelx (by omega) (by omega)).mono (fun r M5 h5 => ?_)⟩)⟩)⟩
  obtain ⟨h5, r1, r2, r3⟩ := h5
  refine ⟨⟨by omega, by omega⟩, h5.ok, fun v hv => ⟨h5, ?_⟩⟩
  by_cases q : r = 0
  · rw [if_pos q] at hv; exact Or.inl ⟨hv, r3 q⟩
  · rw [if_neg q] at hv; exact Or.inr ⟨hv, r2 q⟩

theorem x_MM_anItem (hn : i32 nx) (hO : mOk M) (h : Wd M a) (hs : St M (a + 11) st) (hl : st.length ≤ 700) : Ci G y_MM_anItem (d + 2) [vr a, vi nx] M (pQx M a st 50 nx) := by
  have s0 := SI.start hO h hs
  have e50 : ex 50 nx = ex50 nx := rfl
  unfold ex50 at e50
  refine k_MM_anItem hO hn ⟨fun w => ?_, fun w => ?_⟩
  · rw [if_pos w] at e50
    exact s0.donex (ys := []) (t := 1) e50 (dl0 rfl rfl (by omega)) (Or.inl rfl)
  · rw [if_neg w] at e50
    rw [s0.r6]
    refine ⟨s0.k, s0.k6, s0.two (by omega) (i32s (by omega) (by omega)) (i32s (by omega) (by omega)) (fun M3 h3 => ?_)⟩
    rw [h3.r6]
    have hz : ∀ ys, c75 ys = 0 → c76 ys = 0 → mI M a 7 = mI M a 7 + dlv 50 ys := fun ys h1 h2 => by unfold dlv; rw [h1, h2, if_neg (by omega)]; omega
    refine ⟨fun w1 => ⟨h3.k, h3.k6, (h3.push (by simp only [List.length_cons]; omega) (i32s (by omega) (by omega))).mono (fun M4 h4 => ?_)⟩, fun w1 => ⟨fun w2 => ⟨h3.k, h3.k6, (h3.push (by simp only [List.length_cons]; omega) (i32s (by omega) (by omega))).mono (fun M4 h4 => ⟨h4.ok, h4.k, (s_MM_want (d := d) h4 (by simp only [List.length_cons]; omega) (i32s (by omega) (by omega)) (i32s (by omega) (by omega)) (i32s (by omega) (by omega))).mono (fun M5 h5 => ?_)⟩)⟩, fun w2 => ⟨fun w3 => ⟨h3.k, h3.k6, (h3.push (by simp only [List.length_cons]; omega) (i32s (by omega) (by omega))).mono (fun M4 h4 => ⟨h4.ok, h4.k, (s_MM_want (d := d) h4 (by simp only [List.length_cons]; omega) (i32s (by omega) (by omega)) (i32s (by omega) (by omega)) (i32s (by omega) (by omega))).mono (fun M5 h5 => ?_)⟩)⟩, fun w3 => ⟨fun w4 => ⟨h3.k, h3.k6, (h3.push (by simp only [List.length_cons]; omega) (i32s (by omega) (by omega))).mono (fun M4 h4 => ?_)⟩, fun w4 => ?_⟩⟩⟩⟩
    · rw [if_pos w1] at e50
      exact ⟨h4.ok, h4.donex (ys := [51, 34, 50]) (t := 1) e50 (hz _ (by decide) (by decide)) (Or.inl rfl)⟩
    · rw [if_neg w1, if_pos w2] at e50
      exact ⟨h5.ok, h5.donex (ys := [1, 33, 53, 54, 34, 50]) (t := 1) e50 (hz _ (by decide) (by decide)) (Or.inl rfl)⟩
    · rw [if_neg w1, if_neg w2, if_pos w3] at e50
      exact ⟨h5.ok, h5.donex (ys := [61, 17, 56, 57, 34, 50]) (t := 1) e50 (hz _ (by decide) (by decide)) (Or.inl rfl)⟩
    · rw [if_neg w1, if_neg w2, if_neg w3, if_pos w4] at e50
      exact ⟨h4.ok, h4.donex (ys := [61, 34, 50]) (t := 1) e50 (hz _ (by decide) (by decide)) (Or.inl rfl)⟩
    · rw [if_neg w1, if_neg w2, if_neg w3, if_neg w4] at e50
      exact h3.fail0 e50

theorem x_MM_set0 (hn : i32 nx) (hO : mOk M) (h : Wd M a) (hs : St M (a + 11) st) (hl : st.length ≤ 700) (h1 : -900 ≤ mI M a 7) (h2 : mI M a 7 ≤ 900) : Ci G y_MM_set0 (d + 2) [vr a, vi nx] M (pQx M a st 59 nx) := by
  have s0 := SI.start hO h hs
  have e0 : ex 59 nx = ex59 nx := rfl
  unfold ex59 at e0
  refine k_MM_set0 hO hn ⟨fun w => ⟨s0.k, (s0.levelx (by omega) (by omega)).mono (fun r M2 h2 => ?_)⟩, fun w => s0.fail0 (by rw [if_neg w] at e0; exact e0)⟩
  obtain ⟨h2, r1, r2, r3⟩ := h2
  rw [if_pos w] at e0
  refine ⟨⟨by omega, by omega⟩, h2.ok, fun q => h2.fail1 e0 (by decide) (r3 q), fun q => ?_⟩
  rw [h2.r6]
  refine ⟨h2.k, h2.k6, (h2.push (by omega) (i32s (by omega) (by omega))).mono (fun M3 h3 => ?_)⟩
  rw [h3.r6]
  refine ⟨h3.ok, h3.k, h3.k6, (h3.push (by simp only [List.length_cons]; omega) (i32s (by omega) (by omega))).mono (fun M4 h4 => ?_)⟩
  rw [h4.r6]
  refine ⟨h4.ok, h4.k, h4.k6, (h4.push (by simp only [List.length_cons]; omega) (i32s (by omega) (by omega))).mono (fun M5 h5 => ⟨h5.ok, h5.k, (s_MM_want (d := d) h5 (by simp only [List.length_cons]; omega) (i32s (by omega) (by omega)) (i32s (by omega) (by omega)) (i32s (by omega) (by omega))).mono (fun M6 h6 => ?_)⟩)⟩
  exact ⟨h6.ok, h6.donex (ys := [1, 38, 23, 61, 37, 75]) (t := 1) e0 (dl1 (by decide) (by decide) (by omega)) (Or.inr (r2 q))⟩

theorem ag_donex {x u v g r : Int} {M3 : mM} (s0 : SI M a st (mI M a 7) M) (hx : x ≠ 76) (hv : c75 [v, u] = 0 ∧ c76 [v, u] = 0) (e1 : g ≠ 0 → ex x nx = some ([v, u], 1)) (e2 : g = 0 → ex x nx = some ([], 0)) (h : (g = 0 ∧ r = 0 ∧ M3 = M) ∨ (g ≠ 0 ∧ r = 1 ∧ SI M a (v :: u :: st) (mI M a 7) M3)) : i32 r ∧ mOk M3 ∧ pQx M a st x nx r M3 := by
  rcases h with ⟨h1, h2, h3⟩ | ⟨h1, h2, h3⟩
  · subst h2 h3
    exact ⟨i32s (by omega) (by omega), s0.ok, s0.donex (ys := []) (t := 0) (e2 h1) (dl0 rfl rfl hx) (Or.inl rfl)⟩
  · subst h2
    exact ⟨i32s (by omega) (by omega), h3.ok, h3.donex (ys := [v, u]) (t := 1) (e1 h1) (dl0 hv.1 hv.2 hx) (Or.inl rfl)⟩

theorem x_MM_item {x : Int} (hx : x = 50 ∨ x = 51 ∨ x = 53 ∨ x = 54 ∨ x = 56 ∨ x = 57 ∨ x = 58 ∨ x = 59 ∨ x = 60) (hn : i32 nx) (hO : mOk M) (h : Wd M a) (hs : St M (a + 11) st) (hl : st.length ≤ 700) (h1 : -900 ≤ mI M a 7) (h2 : mI M a 7 ≤ 900) : Ci G y_MM_item (d + 3) [vr a, vi x, vi nx] M (pQx M a st x nx) := by
  have s0 := SI.start hO h hs
  refine k_MM_item hO (by rcases hx with q | q | q | q | q | q | q | q | q <;> rw [q] <;> exact i32s (by omega) (by omega)) hn ⟨fun w => ⟨s0.k, ?_⟩, fun w50 => ⟨fun w => ⟨s0.k, ?_⟩, fun w51 => ⟨fun w => ?_, fun w53 => ⟨fun w => ?_, fun w54 => ⟨fun w => ⟨s0.k, ?_⟩, fun w56 => ⟨fun w => ?_, fun w57 => ⟨fun w => ?_, fun w58 => ⟨fun w => ?_, fun w60 => ⟨s0.k, ?_⟩⟩⟩⟩⟩⟩⟩⟩⟩
  · subst w
    refine (x_MM_anItem (d := d) hn hO h hs hl).mono (fun r M2 h2 => ⟨?_, h2.1.1.1, h2⟩)
    rcases h2.1.2.2 with q | ⟨ys, t, e, q, -⟩
    · rw [q]; exact i32s (by omega) (by omega)
    · have c := ex_chk e
      unfold chk at c
      simp only [Bool.and_eq_true, decide_eq_true_eq] at c
      exact i32s (by omega) (by omega)
  · subst w
    refine (s_MM_want (d := d + 1) s0 (by omega) (i32s (by omega) (by omega)) (i32s (by omega) (by omega)) (i32s (by omega) (by omega))).mono (fun M2 h2 => ⟨h2.ok, h2.donex (ys := [1, 23, 61]) (t := 0) rfl (dl0 (by decide) (by decide) (by omega)) (Or.inl rfl)⟩)
  · subst w
    have e0 : ex 53 nx = ex53 nx := rfl
    unfold ex53 at e0
    refine ⟨fun w => ?_, fun w => ⟨s0.k, (s_MM_want (d := d + 1) s0 (by omega) (i32s (by omega) (by omega)) (i32s (by omega) (by omega)) (i32s (by omega) (by omega))).mono (fun M2 h2 => ⟨h2.ok, ?_⟩)⟩⟩
    · rw [if_pos w] at e0
      exact s0.donex (ys := []) (t := 1) e0 (dl0 rfl rfl (by omega)) (Or.inl rfl)
    · rw [if_neg w] at e0
      exact h2.donex (ys := [61, 16, 61]) (t := 0) e0 (dl0 (by decide) (by decide) (by omega)) (Or.inl rfl)
  · subst w
    have e0 : ex 54 nx = ex54 nx := rfl
    unfold ex54 at e0
    rw [s0.r6]
    refine ⟨fun w => ⟨s0.k, s0.k6, (s0.push (by omega) (i32s (by omega) (by omega))).mono (fun M2 h2 => ⟨h2.ok, ?_⟩)⟩, fun w => ?_⟩
    · rw [if_pos w] at e0
      exact h2.donex (ys := [61]) (t := 1) e0 (dl0 (by decide) (by decide) (by omega)) (Or.inl rfl)
    · rw [if_neg w] at e0
      exact s0.donex (ys := []) (t := 0) e0 (dl0 rfl rfl (by omega)) (Or.inl rfl)
  · subst w
    refine (s_MM_want (d := d + 1) s0 (by omega) (i32s (by omega) (by omega)) (i32s (by omega) (by omega)) (i32s (by omega) (by omega))).mono (fun M2 h2 => ⟨h2.ok, h2.donex (ys := [63, 33, 58]) (t := 0) rfl (dl0 (by decide) (by decide) (by omega)) (Or.inl rfl)⟩)
  · subst w
    intro v hv
    have e0 : ex 57 nx = ex57 nx := rfl
    unfold ex57 at e0
    refine ⟨s0.k, (s_MM_again (d := d + 1) s0 (by omega) (by split at hv <;> exact i32s (by omega) (by omega)) (i32s (by omega) (by omega)) (i32s (by omega) (by omega))).mono (fun r M3 h3 => ag_donex s0 (by omega) (by decide) (fun w => ?_) (fun w => ?_) h3)⟩
    · rw [if_pos (by split at hv <;> omega)] at e0; exact e0
    · rw [if_neg (by split at hv <;> omega)] at e0; exact e0
  · subst w
    have e0 : ex 58 nx = ex58 nx := rfl
    unfold ex58 at e0
    rw [s0.r6]
    refine ⟨fun w => ?_, fun w => ⟨s0.k, s0.k6, s0.two (by omega) (i32s (by omega) (by omega)) (i32s (by omega) (by omega)) (fun M3 h3 => ?_)⟩⟩
    · rw [if_pos w] at e0
      exact s0.donex (ys := []) (t := 1) e0 (dl0 rfl rfl (by omega)) (Or.inl rfl)
    · rw [if_neg w] at e0
      exact h3.donex (ys := [59, 60]) (t := 0) e0 (dl0 (by decide) (by decide) (by omega)) (Or.inl rfl)
  · subst w
    intro v hv
    have e0 : ex 60 nx = ex60 nx := rfl
    unfold ex60 at e0
    refine ⟨s0.k, (s_MM_again (d := d + 1) s0 (by omega) (by split at hv <;> exact i32s (by omega) (by omega)) (i32s (by omega) (by omega)) (i32s (by omega) (by omega))).mono (fun r M3 h3 => ag_donex s0 (by omega) (by decide) (fun w => ?_) (fun w => ?_) h3)⟩
    · rw [if_pos (by split at hv <;> omega)] at e0; exact e0
    · rw [if_neg (by split at hv <;> omega)] at e0; exact e0
  · have w59 : x = 59 := by omega
    subst w59
    refine (x_MM_set0 (d := d) hn hO h hs hl h1 h2).mono (fun r M2 h2 => ⟨?_, h2.1.1.1, h2⟩)
    rcases h2.1.2.2 with q | ⟨ys, t, e, q, -⟩
    · rw [q]; exact i32s (by omega) (by omega)
    · have c := ex_chk e
      unfold chk at c
      simp only [Bool.and_eq_true, decide_eq_true_eq] at c
      exact i32s (by omega) (by omega)

theorem x_MM_sign (hn : i32 nx) (hO : mOk M) (h : Wd M a) (hs : St M (a + 11) st) (hl : st.length ≤ 700) (h1 : -900 ≤ mI M a 7) (h2 : mI M a 7 ≤ 900) : Ci G y_MM_sign (d + 2) [vr a, vi nx] M (pQx M a st 73 nx) := by
  have s0 := SI.start hO h hs
  have e0 : ex 73 nx = ex73 nx := rfl
  unfold ex73 at e0
  refine k_MM_sign hO hn ⟨fun w1 => ?_, fun w1 => ⟨fun w2 => ?_, fun w2 => ⟨fun w3 => ?_, fun w3 => ⟨fun w4 => ?_, fun w4 => s0.fail0 (by rw [if_neg w1, if_neg w2, if_neg w3, if_neg w4] at e0; exact e0)⟩⟩⟩⟩
  · rw [if_pos w1] at e0
    exact s0.donex (ys := []) (t := 1) e0 (dl0 rfl rfl (by omega)) (Or.inl rfl)
  · rw [if_neg w1, if_pos w2] at e0
    rw [s0.r6]
    refine ⟨s0.k, s0.k6, (s0.push (by omega) (i32s (by omega) (by omega))).mono (fun M2 h2 => ?_)⟩
    rw [h2.r6]
    refine ⟨h2.ok, h2.k, h2.k6, (h2.push (by simp only [List.length_cons]; omega) (i32s (by omega) (by omega))).mono (fun M3 h3 => ?_)⟩
    rw [h3.r6]
    refine ⟨h3.ok, h3.k, h3.k6, (h3.push (by simp only [List.length_cons]; omega) (i32s (by omega) (by omega))).mono (fun M4 h4 => ?_)⟩
    rw [h4.r6]
    refine ⟨h4.ok, h4.k, h4.k6, (h4.push (by simp only [List.length_cons]; omega) (i32s (by omega) (by omega))).mono (fun M5 h5 => ?_)⟩
    rw [h5.r6]
    refine ⟨h5.ok, h5.k, h5.k6, (h5.push (by simp only [List.length_cons]; omega) (i32s (by omega) (by omega))).mono (fun M6 h6 => ⟨h6.ok, ?_⟩)⟩
    exact h6.donex (ys := [76, 61, 74, 37, 75]) (t := 1) e0 (by unfold dlv; rw [show c75 [76, 61, 74, 37, 75] = 1 by decide, show c76 [76, 61, 74, 37, 75] = 1 by decide, if_neg (by omega)]; omega) (Or.inl rfl)
  · rw [if_neg w1, if_neg w2, if_pos w3] at e0
    rw [s0.r6]
    refine ⟨s0.k, s0.k6, s0.two (by omega) (i32s (by omega) (by omega)) (i32s (by omega) (by omega)) (fun M3 h3 => ⟨h3.k, (h3.levelx (by omega) (by omega)).mono (fun r M4 h4 => ?_)⟩)⟩
    obtain ⟨h4, r1, r2, r3⟩ := h4
    refine ⟨i32s (by omega) (by omega), h4.ok, fun v hv => ?_⟩
    by_cases q : r = 0
    · rw [if_pos q] at hv; subst hv; exact h4.fail1 e0 (by decide) (r3 q)
    · rw [if_neg q] at hv; subst hv
      exact h4.donex (ys := [73, 75]) (t := 1) e0 (dl1 (by decide) (by decide) (by omega)) (Or.inr (r2 q))
  · rw [if_neg w1, if_neg w2, if_neg w3, if_pos w4] at e0
    rw [s0.r6]
    refine ⟨s0.k, s0.k6, (s0.push (by omega) (i32s (by omega) (by omega))).mono (fun M2 h2 => ?_)⟩
    rw [h2.r6]
    refine ⟨h2.ok, h2.k, h2.k6, h2.two (by simp only [List.length_cons]; omega) (i32s (by omega) (by omega)) (i32s (by omega) (by omega)) (fun M3 h3 => ⟨h3.k, (h3.levelx (by omega) (by omega)).mono (fun r M4 h4 => ?_)⟩)⟩
    obtain ⟨h4, r1, r2, r3⟩ := h4
    refine ⟨i32s (by omega) (by omega), h4.ok, fun v hv => ?_⟩
    by_cases q : r = 0
    · rw [if_pos q] at hv; subst hv; exact h4.fail1 e0 (by decide) (r3 q)
    · rw [if_neg q] at hv; subst hv
      exact h4.donex (ys := [61, 37, 75]) (t := 1) e0 (dl1 (by decide) (by decide) (by omega)) (Or.inr (r2 q))

theorem x_MM_rule0 {x : Int} (hx : x = 61 ∨ x = 62 ∨ x = 63 ∨ x = 64 ∨ x = 65 ∨ x = 66 ∨ x = 67 ∨ x = 68 ∨ x = 69 ∨ x = 70 ∨ x = 71 ∨ x = 72 ∨ x = 73 ∨ x = 74 ∨ x = 76) (hn : i32 nx) (hO : mOk M) (h : Wd M a) (hs : St M (a + 11) st) (hl : st.length ≤ 700) (h1 : -900 ≤ mI M a 7) (h2 : mI M a 7 ≤ 900) : Ci G y_MM_rule0 (d + 3) [vr a, vi x, vi nx] M (pQx M a st x nx) := by
  have s0 := SI.start hO h hs
  have hxb : 61 ≤ x ∧ x ≤ 76 := by omega
  have i2 : ∀ u : Int, 0 ≤ u → u ≤ 100 → i32 u := fun u a b => i32s (by omega) (by omega)
  refine k_MM_rule0 hO (i32s (by omega) (by omega)) hn ⟨fun w => ?_, fun n1 => ⟨fun w => ?_, fun n2 => ⟨fun w => ?_, fun n3 => ⟨fun w => ?_, fun n4 => ⟨fun w => ?_, fun n5 => ⟨fun w => ?_, fun n6 => ⟨fun w => ?_, fun n7 => ⟨fun w => ?_, fun n8 => ⟨fun w => ?_, fun n9 => ⟨fun w => ?_, fun n10 => ⟨fun w => ?_, fun n11 => ⟨fun w => ?_, fun n12 => ⟨fun w => ?_, fun n13 => ⟨fun w => ?_, fun n14 => ?_⟩⟩⟩⟩⟩⟩⟩⟩⟩⟩⟩⟩⟩⟩
  · subst w
    rw [s0.r6]
    exact ⟨s0.k, s0.k6, s0.two (by omega) (i2 _ (by omega) (by omega)) (i2 _ (by omega) (by omega)) (fun M3 h3 => h3.donex (ys := [63, 62]) (t := 0) rfl (dl0 (by decide) (by decide) (by omega)) (Or.inl rfl))⟩
  · subst w
    have e0 : ex 62 nx = ex62 nx := rfl
    unfold ex62 at e0
    refine ⟨fun w => ⟨s0.k, (x_MM_ask (d := d) s0 (by omega) (by omega) (by omega)).mono (fun r M2 h2 => ?_)⟩, fun w => ?_⟩
    · obtain ⟨h2, hr⟩ := h2
      rw [if_pos w] at e0
      rcases hr with ⟨q, q2⟩ | ⟨q, q2⟩
      · subst q
        exact ⟨i32s (by omega) (by omega), h2.ok, k_MM_rule0_114 h2.ok (i32s (by omega) (by omega)) (h2.fail1 e0 (by decide) q2)⟩
      · subst q
        exact ⟨i32s (by omega) (by omega), h2.ok, k_MM_rule0_114 h2.ok (i32s (by omega) (by omega)) (h2.donex (ys := [61, 33, 61, 75]) (t := 1) e0 (dl1 (by decide) (by decide) (by omega)) (Or.inr q2))⟩
    · rw [if_neg w] at e0
      exact k_MM_rule0_114 s0.ok (i32s (by omega) (by omega)) (s0.donex (ys := []) (t := 0) e0 (dl0 rfl rfl (by omega)) (Or.inl rfl))
  · subst w
    rw [s0.r6]
    exact ⟨s0.k, s0.k6, s0.two (by omega) (i2 _ (by omega) (by omega)) (i2 _ (by omega) (by omega)) (fun M3 h3 => h3.donex (ys := [65, 64]) (t := 0) rfl (dl0 (by decide) (by decide) (by omega)) (Or.inl rfl))⟩
  · subst w
    intro v hv
    have e0 : ex 64 nx = ex64 nx := rfl
    unfold ex64 at e0
    refine ⟨s0.k, (s_MM_again (d := d + 1) s0 (by omega) (by split at hv <;> exact i32s (by omega) (by omega)) (i2 _ (by omega) (by omega)) (i2 _ (by omega) (by omega))).mono (fun r M3 h3 => ag_donex s0 (by omega) (by decide) (fun w => ?_) (fun w => ?_) h3)⟩
    · rw [if_pos (by split at hv <;> omega)] at e0; exact e0
    · rw [if_neg (by split at hv <;> omega)] at e0; exact e0
  · subst w
    rw [s0.r6]
    exact ⟨s0.k, s0.k6, s0.two (by omega) (i2 _ (by omega) (by omega)) (i2 _ (by omega) (by omega)) (fun M3 h3 => h3.donex (ys := [67, 66]) (t := 0) rfl (dl0 (by decide) (by decide) (by omega)) (Or.inl rfl))⟩
  · subst w
    intro v hv
    have e0 : ex 66 nx = ex66 nx := rfl
    unfold ex66 at e0
    refine ⟨s0.k, (s_MM_again (d := d + 1) s0 (by omega) (by split at hv <;> exact i32s (by omega) (by omega)) (i2 _ (by omega) (by omega)) (i2 _ (by omega) (by omega))).mono (fun r M3 h3 => ag_donex s0 (by omega) (by decide) (fun w => ?_) (fun w => ?_) h3)⟩
    · rw [if_pos (by split at hv <;> omega)] at e0; exact e0
    · rw [if_neg (by split at hv <;> omega)] at e0; exact e0
  · subst w
    have e0 : ex 67 nx = ex67 nx := rfl
    unfold ex67 at e0
    rw [s0.r6]
    refine ⟨fun w => ⟨s0.k, s0.k6, s0.two (by omega) (i2 _ (by omega) (by omega)) (i2 _ (by omega) (by omega)) (fun M3 h3 => ⟨h3.k, (h3.levelx (by omega) (by omega)).mono (fun r M4 h4 => ?_)⟩)⟩, fun w => ⟨s0.k, s0.k6, s0.two (by omega) (i2 _ (by omega) (by omega)) (i2 _ (by omega) (by omega)) (fun M3 h3 => ?_)⟩⟩
    · obtain ⟨h4, r1, r2, r3⟩ := h4
      rw [if_pos w] at e0
      refine ⟨i32s (by omega) (by omega), h4.ok, fun v hv => ?_⟩
      by_cases q : r = 0
      · rw [if_pos q] at hv; subst hv; exact h4.fail1 e0 (by decide) (r3 q)
      · rw [if_neg q] at hv; subst hv
        exact h4.donex (ys := [67, 75]) (t := 1) e0 (dl1 (by decide) (by decide) (by omega)) (Or.inr (r2 q))
    · rw [if_neg w] at e0
      exact h3.donex (ys := [69, 68]) (t := 0) e0 (dl0 (by decide) (by decide) (by omega)) (Or.inl rfl)
  · subst w
    have e0 : ex 68 nx = ex68 nx := rfl
    unfold ex68 at e0
    refine (s_MM_isComparison hn hO).mono (fun r M2 h2 => ?_)
    obtain ⟨e2, r1, r2⟩ := h2
    subst e2
    rw [s0.r6]
    refine ⟨i32s (by omega) (by omega), hO, fun q => ?_, fun q => ⟨s0.k, s0.k6, (s0.push (by omega) (i2 _ (by omega) (by omega))).mono (fun M3 h3 => ⟨h3.ok, ?_⟩)⟩⟩
    · rw [if_neg (fun w => r2.2 w q)] at e0
      exact s0.donex (ys := []) (t := 0) e0 (dl0 rfl rfl (by omega)) (Or.inl rfl)
    · rw [if_pos (r2.1 q)] at e0
      exact h3.donex (ys := [69]) (t := 1) e0 (dl0 (by decide) (by decide) (by omega)) (Or.inl rfl)
  · subst w
    rw [s0.r6]
    exact ⟨s0.k, s0.k6, s0.two (by omega) (i2 _ (by omega) (by omega)) (i2 _ (by omega) (by omega)) (fun M3 h3 => h3.donex (ys := [71, 70]) (t := 0) rfl (dl0 (by decide) (by decide) (by omega)) (Or.inl rfl))⟩
  · subst w
    intro v hv
    have e0 : ex 70 nx = ex70 nx := rfl
    unfold ex70 at e0
    refine ⟨s0.k, (s_MM_again (d := d + 1) s0 (by omega) (by split at hv <;> exact i32s (by omega) (by omega)) (i2 _ (by omega) (by omega)) (i2 _ (by omega) (by omega))).mono (fun r M3 h3 => ag_donex s0 (by omega) (by decide) (fun w => ?_) (fun w => ?_) h3)⟩
    · rw [if_pos (by split at hv <;> omega)] at e0; exact e0
    · rw [if_neg (by split at hv <;> omega)] at e0; exact e0
  · subst w
    rw [s0.r6]
    exact ⟨s0.k, s0.k6, s0.two (by omega) (i2 _ (by omega) (by omega)) (i2 _ (by omega) (by omega)) (fun M3 h3 => h3.donex (ys := [73, 72]) (t := 0) rfl (dl0 (by decide) (by decide) (by omega)) (Or.inl rfl))⟩
  · subst w
    intro v hv
    have e0 : ex 72 nx = ex72 nx := rfl
    unfold ex72 at e0
    refine ⟨s0.k, (s_MM_again (d := d + 1) s0 (by omega) (by split at hv <;> exact i32s (by omega) (by omega)) (i2 _ (by omega) (by omega)) (i2 _ (by omega) (by omega))).mono (fun r M3 h3 => ag_donex s0 (by omega) (by decide) (fun w => ?_) (fun w => ?_) h3)⟩
    · rw [if_pos (by split at hv <;> omega)] at e0; exact e0
    · rw [if_neg (by split at hv <;> omega)] at e0; exact e0
  · subst w
    intro v hv
    have e0 : ex 74 nx = ex74 nx := rfl
    unfold ex74 at e0
    refine ⟨s0.k, (s_MM_again (d := d + 1) s0 (by omega) (by split at hv <;> exact i32s (by omega) (by omega)) (i2 _ (by omega) (by omega)) (i2 _ (by omega) (by omega))).mono (fun r M3 h3 => ag_donex s0 (by omega) (by decide) (fun w => ?_) (fun w => ?_) h3)⟩
    · rw [if_pos (by split at hv <;> omega)] at e0; exact e0
    · rw [if_neg (by split at hv <;> omega)] at e0; exact e0
  · subst w
    have e0 : ex 76 nx = ex76 nx := rfl
    unfold ex76 at e0
    refine ⟨fun w => ⟨s0.k, (s0.levelx (by omega) (by omega)).mono (fun r M4 h4 => ?_)⟩, fun w => k_MM_rule0_408 hO (i32s (by omega) (by omega)) (s0.fail0 (by rw [if_neg w] at e0; exact e0))⟩
    obtain ⟨h4, r1, r2, r3⟩ := h4
    rw [if_pos w] at e0
    exact ⟨i32s (by omega) (by omega), h4.ok, fun q => k_MM_rule0_408 h4.ok (i32s (by omega) (by omega)) (h4.fail1 e0 (by decide) (r3 q)), fun q => k_MM_rule0_408 h4.ok (i32s (by omega) (by omega)) (h4.donex (ys := []) (t := 1) e0 (by unfold dlv; rw [if_pos rfl]; show _ = _ + (((0 : Nat) : Int) - ((0 : Nat) : Int) + 1); omega) (Or.inr (r2 q)))⟩
  · have w : x = 73 := by omega
    subst w
    exact ⟨s0.k, (x_MM_sign (d := d) hn hO h hs hl h1 h2).mono (fun r M2 h2 => ⟨pq_i32 h2.1, h2.1.1.1, h2⟩)⟩

end PIX
end
section
/-! The reference: readText, exactly. -/
/-- what readText tells -/
def rdV (M : mM) (a N : Nat) (v : Int) (M' : mM) : Prop := (v = 0 ∧ ∃ q : Nat, mI M' a 8 = q ∧ ∀ W : Nat → Int, (∀ j, j < N → W j = nt M (a + 5) j) → Rf W [50] 0 q) ∨ (v = 1 ∧ ∀ W : Nat → Int, (∀ j, j < N → W j = nt M (a + 5) j) → Rc W [50] 0 [] N)
section RTX
variable {G : mG} {d a : Nat} {M : mM} {N : Nat}
theorem slv_cons {M : mM} {a : Nat} {st : List Int} (h : mI M a 7 = (c75 st : Int) - c76 st) : slv st = mI M a 7 := h.symm
theorem x_MM_readText (hO : mOk M) (h : Wd M a) (hw : wrds M a N) : Ci G y_MM_readText (d + 4) [vr a] M (fun v M' => rdQ M a N v M' ∧ rdV M a N v M') := by
  obtain ⟨n1, n2, n3, n4, n5⟩ := hw
  have i5 : a + 5 ∈ nums a := nums_o (by decide)
  refine k_MM_readText hO ?_
  rw [h.1.2.2.1.2.2.2]
  refine ⟨h.1.1, (h.nu q11).1, fun M1 e1 M2 e2 M3 e3 => ?_⟩
  obtain ⟨m1, l1, -⟩ := mv_set hO h q11 (v := 0) (by omega) (h.nu q11).2.2.2.1.1 e1
  have w1 := m1.2.1
  have f1 := (m1.fld h (fun q hq => by rw [hq]; exact q11) (fun hq => hq)).1
  have r1 : rdI M a M1 := ⟨m1.mono (fun q hq => hq) (fun x hx => hx.elim) (fun q hq => by rw [hq]; exact h.lt q11), fun j _ _ => by rw [f1]⟩
  obtain ⟨r2, f2, s2⟩ := r1.fld (i32s (by omega) (by omega)) (Or.inl rfl) e2
  obtain ⟨r3, f3, s3⟩ := r2.fld (i32s (by omega) (by omega)) (Or.inr rfl) e3
  have w3 := r3.1.2.1
  have l3 : ln M3 (a + 11) = 0 := by rw [(s3 _ q11).1, (s2 _ q11).1]; exact l1
  rw [w3.1.2.2.1.2.2.2]
  refine ⟨(w3.nu q11).1, (s_MN_add (i32s (by omega) (by omega)) r3.1.1 (w3.nu q11) (by omega)).mono (fun M4 t4 => ?_)⟩
  have m4 := mv_add w3 q11 t4
  have f4 := (m4.fld w3 (fun q hq => by rw [hq]; exact q11) (fun hq => hq)).1
  have r4 : rdI M a M4 := ⟨r3.1.trans (m4.mono (fun q hq => hq) (fun x hx => hx.elim) (fun q hq => by rw [hq]; exact w3.lt q11)), fun j j7 j8 => by rw [f4]; exact r3.2 j j7 j8⟩
  have st4 : St M4 (a + 11) [50] := St.add (st := []) ⟨l3, fun i hi => by simp at hi⟩ t4
  refine ⟨m4.1, ?_⟩
  -- a wrong word ends it
  have hbad : ∀ (M5 : mM) (k : Nat), rdI M a M5 → 0 ≤ mI M5 a 8 → mI M5 a 8 < N → k ≤ 20000 → (∃ q : Nat, mI M5 a 8 = q ∧ ∀ W : Nat → Int, (∀ j, j < N → W j = nt M (a + 5) j) → Rf W [50] 0 q) → h_MM_readText_29 G (d + 3) a k M5 (fun v M' => rdQ M a N v M' ∧ rdV M a N v M') := fun M5 k r5 b0 b1 hk hq => by
    refine k_MM_readText_29 r5.1.1 (i32s (by omega) (by omega)) ⟨r5.1.2.1.1.1, fun q => absurd b0 q, fun _ v hv => ?_, fun q => absurd (Or.inl b0) q⟩
    rw [if_pos b0] at hv
    exact ⟨⟨r5, Or.inl ⟨hv, b0, b1⟩⟩, Or.inl ⟨hv, hq⟩⟩
  suffices H : ∀ (μ k : Nat) (st : List Int) (M5 : mM), (N - k) * 40 + swt st ≤ μ → rdI M a M5 → mI M5 a 8 = -1 → St M5 (a + 11) st → gdS st → mI M5 a 7 = (c75 st : Int) - c76 st → mI M5 a 7 ≤ 40 → ((st = [] ∧ k = N ∧ nt M (a + 5) (N - 1) = 0) ∨ (k < N ∧ ∃ s, st = s ++ [50] ∧ 50 ∉ s)) → (∀ f, Ac (nt M (a + 5)) N f st k → ∃ f', Ac (nt M (a + 5)) N f' [50] 0) → (∀ W : Nat → Int, (∀ j, j < N → W j = nt M (a + 5) j) → Rc W [50] 0 st k) → h_MM_readText_29 G (d + 3) a k M5 (fun v M' => rdQ M a N v M' ∧ rdV M a N v M') by
    refine H _ 0 [50] M4 (Nat.le_refl _) r4 (by rw [f4, f3, if_pos rfl]) st4 ⟨⟨by decide, trivial⟩, fun x hx => by rw [List.mem_singleton.1 hx]; decide, by decide⟩ (by rw [f4, f3, if_neg (by omega), f2, if_pos rfl]; rfl) (by rw [f4, f3, if_neg (by omega), f2, if_pos rfl]; omega) (Or.inr ⟨by omega, [], rfl, by simp⟩) (fun f hf => ⟨f, hf⟩) (fun _ _ => Rc.refl)
  intro μ
  induction μ with
  | zero =>
    intro k st M5 hμ r5 b5 s5 g5 l5 l4 bt ac rc
    rcases bt with ⟨e1, e2, e3⟩ | ⟨e1, -⟩
    · subst e1
      refine k_MM_readText_29 r5.1.1 (i32s (by omega) (by omega)) ?_
      have w5 := r5.1.2.1
      rw [w5.1.2.2.1.2.2.2]
      refine ⟨w5.1.1, fun _ => (w5.nu q11).1, fun _ v hv => ?_, fun q => absurd (Or.inr (by have := s5.1; exact Int.le_of_eq this)) q⟩
      rw [if_neg (by omega)] at hv
      exact ⟨⟨r5, Or.inr ⟨hv, e3, ac 0 ⟨rfl, e2⟩⟩⟩, Or.inr ⟨hv, fun W hW => by have := rc W hW; rw [e2] at this; exact this⟩⟩
    · omega
  | succ μ ih =>
    intro k st M5 hμ r5 b5 s5 g5 l5 l4 bt ac rc
    have w5 := r5.1.2.1
    have o5 := r5.1.1
    cases st with
    | nil =>
      rcases bt with ⟨-, e2, e3⟩ | ⟨-, s, e2, -⟩
      · refine k_MM_readText_29 o5 (i32s (by omega) (by omega)) ?_
        rw [w5.1.2.2.1.2.2.2]
        refine ⟨w5.1.1, fun _ => (w5.nu q11).1, fun _ v hv => ?_, fun q => absurd (Or.inr (by have := s5.1; exact Int.le_of_eq this)) q⟩
        rw [if_neg (by omega)] at hv
        exact ⟨⟨r5, Or.inr ⟨hv, e3, ac 0 ⟨rfl, e2⟩⟩⟩, Or.inr ⟨hv, fun W hW => by have := rc W hW; rw [e2] at this; exact this⟩⟩
      · exact absurd e2 (by simp)
    | cons x r =>
      obtain ⟨hkN, s, hs1, hs2⟩ : k < N ∧ ∃ s, x :: r = s ++ [50] ∧ 50 ∉ s := by
        rcases bt with ⟨e1, -, -⟩ | w
        · exact absurd e1 (by simp)
        · exact w
      have hlen := g5.len l5 l4
      have hxs := g5.2.1 x (List.mem_cons_self ..)
      have hxb := sgs_b x hxs
      -- the rest of the pile, where x is not the bottom
      have hrest : x ≠ 50 → ∃ s', r = s' ++ [50] ∧ 50 ∉ s' := fun hx => by
        cases s with
        | nil =>
          have : x = 50 := by
            have := hs1
            simp at this
            exact this.1
          exact absurd this hx
        | cons y s' =>
          rw [List.cons_append] at hs1
          obtain ⟨-, e⟩ := List.cons.inj hs1
          exact ⟨s', e, fun q => hs2 (List.mem_cons_of_mem _ q)⟩
      have hbot : x = 50 → r = [] := fun hx => by
        cases s with
        | nil =>
          have := hs1
          simp at this
          exact this.2
        | cons y s' =>
          rw [List.cons_append] at hs1
          obtain ⟨e, -⟩ := List.cons.inj hs1
          exact absurd (by rw [← e, hx]; exact List.mem_cons_self ..) hs2
      have sN := r5.1.2.2.2.2 (a + 5) i5 (by omega)
      have el : mI M5 (a + 11) 1 = (r.length : Int) + 1 := by have := s5.1; rw [List.length_cons] at this; unfold ln at this; omega
      refine k_MM_readText_29 o5 (i32s (by omega) (by omega)) ?_
      rw [w5.1.2.2.1.2.2.2, el, b5]
      refine ⟨w5.1.1, fun _ => (w5.nu q11).1, fun q => by omega, fun _ => ⟨(w5.nu q11).1, (s_MN_take o5 (w5.nu q11) (by have := s5.1; rw [List.length_cons] at this; omega)).mono (fun y M6 t6 => ?_)⟩⟩
      obtain ⟨s6, ey⟩ := s5.take t6
      subst ey
      have m6 := mv_take w5 q11 t6
      have w6 := m6.2.1
      have f6 := (m6.fld w5 (fun q hq => by rw [hq]; exact q11) (fun hq => hq)).1
      have sN6 := m6.2.2.2.2 (a + 5) i5 (by omega)
      have r6 : rdI M a M6 := ⟨r5.1.trans (m6.mono (fun q hq => hq) (fun z hz => hz.elim) (fun q hq => by rw [hq]; exact w5.lt q11)), fun j j7 j8 => by rw [f6]; exact r5.2 j j7 j8⟩
      rw [w6.1.2.2.1.1]
      refine ⟨i32s (by omega) (by omega), t6.1, w6.1.1, (w6.nu i5).1, (s_MN_at t6.1 (w6.nu i5) (by rw [sN6.1, sN.1, n3]; omega)).mono (fun nx M7 h7 => ?_)⟩
      obtain ⟨e7, hnx⟩ := h7
      subst e7
      rw [sN6.2.1, sN.2.1] at hnx
      have hnx32 : i32 nx := by rw [hnx]; exact (hO _ _).1
      have o7 := t6.1
      refine ⟨hnx32, o7, fun x75 => ?_, fun x75 => ⟨fun x50 => ?_, fun x50 => ?_⟩⟩
      · -- a level ends
        rw [f6]
        refine ⟨w6.1.1, i32s (by omega) (by omega), fun M8 e8 => ?_⟩
        obtain ⟨r8, f8, s8⟩ := r6.fld (i32s (by omega) (by omega)) (Or.inl rfl) e8
        have c1 : c75 (y :: r) = 1 + c75 r := by show (if y = 75 then 1 else 0) + c75 r = _; rw [if_pos x75]
        have c2 : c76 (y :: r) = c76 r := by show (if y = 76 then 1 else 0) + c76 r = _; rw [if_neg (by omega)]; omega
        refine ih k r M8 ?_ r8 (by rw [f8, if_neg (by omega), f6]; exact b5) (s6.same (s8 _ q11)) ⟨g5.1.2, fun z hz => g5.2.1 z (List.mem_cons_of_mem _ hz), fun q => g5.2.2 (List.mem_of_mem_tail q)⟩ (by rw [f8, if_pos rfl]; omega) (by rw [f8, if_pos rfl]; omega) (Or.inr ⟨hkN, hrest (by omega)⟩) (fun f hf => ac (f + 1) ?_) (fun W hW => (rc W hW).trans (Rc.zero (by rw [x75]; exact mst_75)))
        · have e : swt (y :: r) = wgt y + swt r := rfl
          have := wgt_pos (x := y)
          omega
        · show (if y = 75 then Ac _ N f r k else _)
          rw [if_pos x75]
          exact hf
      · -- a step of the grammar
        have hpq : ∀ (rr : Int) (M8 : mM), pQx M7 a r y nx rr M8 → h_MM_readText_129 G (d + 3) a k rr M8 (fun v M' => rdQ M a N v M' ∧ rdV M a N v M') := fun rr M8 p8 => by
          obtain ⟨⟨m8, f8, pr⟩, pf⟩ := p8
          have sl : slv (y :: r) = mI M7 a 7 := by rw [f6]; exact slv_cons l5
          have r8 : rdI M a M8 := ⟨r6.1.trans m8, fun j j7 j8 => by rw [f8 j j7]; exact r6.2 j j7 j8⟩
          have b8 : mI M8 a 8 = -1 := by rw [f8 8 (by omega), f6]; exact b5
          have hrr : i32 rr := by
            rcases pr with q | ⟨ys, t, e, q, -⟩
            · rw [q]; exact i32s (by omega) (by omega)
            · have := (g5.step e).2.1
              exact i32s (by omega) (by omega)
          refine k_MM_readText_129 m8.1 (i32s (by omega) (by omega)) hrr (fun v hv => ⟨m8.2.1.1.1, fun M9 e9 u hu => ?_⟩)
          obtain ⟨r9, f9, s9⟩ := r8.fld (v := v) (by split at hv <;> exact i32s (by omega) (by omega)) (Or.inr rfl) e9
          have b9 : mI M9 a 8 = v := by rw [f9, if_pos rfl]
          rcases pr with q | ⟨ys, t, e, q, sY, l8, l8'⟩
          · subst q
            rw [if_neg (by omega)] at hv
            rw [if_pos (by omega)] at hu
            subst hu
            exact hbad M9 k r9 (by omega) (by omega) (by omega) ⟨k, by rw [b9]; exact hv, fun W hW => (rc W hW).rf (Rf.of (by
              rw [hW k hkN, ← hnx]
              rcases pf rfl with pf | ⟨ys, t, p1, p2, p3⟩
              · exact mst_no x50 x75 pf
              · exact mst_deep x50 x75 p1 p2 (by rw [sl]; exact p3)))⟩
          · subst q
            obtain ⟨gd, t01, wt, h50, hn50⟩ := g5.step e
            rw [if_pos (by omega)] at hv
            have l9 : mI M9 a 7 = mI M8 a 7 := by rw [f9, if_neg (by omega)]
            have hu' : u = ((k + t : Nat) : Int) := by
              rcases t01 with z | z
              · rw [if_pos (by omega)] at hu; omega
              · rw [if_neg (by omega)] at hu; omega
            rw [hu']
            have hlast : t = 1 → k + 1 = N → y = 50 ∧ nx = 0 ∧ ys = [] := fun z1 z2 => by
              subst z1
              refine ex_t1 e ?_
              rw [hnx, show k = N - 1 by first | rfl | omega]
              exact n5
            refine ih (k + t) (ys ++ r) M9 ?_ r9 (by omega) (sY.same (s9 _ q11)) gd ?_ (by rw [l9]; rcases l8' with z | z; rw [z, f6]; exact l4; exact z) ?_ (fun f hf => ac (f + 1) ?_) (fun W hW => (rc W hW).trans (Rc.one (mst_n x50 x75 (by rw [hW k hkN, ← hnx]; exact e) (by
              rw [sl]
              by_cases dd : dlv y ys = 1
              · right
                rw [dd] at l8
                rcases l8' with z | z
                · omega
                · omega
              · exact Or.inl dd))))
            · have e1 : swt (y :: r) = wgt y + swt r := rfl
              rw [swt_app]
              rcases t01 with z | z <;> subst z <;> omega
            · rw [l9, l8, f6, l5, c75_app, c76_app]
              unfold dlv
              have e1 : c75 (y :: r) = (if y = 75 then 1 else 0) + c75 r := rfl
              have e2 : c76 (y :: r) = (if y = 76 then 1 else 0) + c76 r := rfl
              rw [if_neg x75] at e1
              by_cases z : y = 76
              · rw [if_pos z] at e2 ⊢
                omega
              · rw [if_neg z] at e2 ⊢
                omega
            · by_cases z : t = 1 ∧ k + 1 = N
              · obtain ⟨z1, z2, z3⟩ := hlast z.1 z.2
                left
                refine ⟨by rw [z3, hbot z1]; rfl, by omega, ?_⟩
                rw [show N - 1 = k by first | rfl | omega, ← hnx]
                exact z2
              · right
                refine ⟨by omega, ?_⟩
                by_cases y5 : y = 50
                · rcases h50 y5 with z1 | ⟨s', z1, z2⟩
                  · -- nothing is put down only at the end
                    exfalso
                    subst y5 z1
                    have he : ex 50 nx = ex50 nx := rfl
                    rw [he] at e
                    unfold ex50 at e
                    have hn0 : nx = 0 := by
                      refine Classical.byContradiction (fun hn => ?_)
                      rw [if_neg hn] at e
                      repeat' (first | (cases e; done) | (split at e))
                      all_goals cases e
                    have hk1 : k + 1 = N := by
                      refine Classical.byContradiction (fun hk => ?_)
                      have := n4 k (by omega)
                      omega
                    rw [if_pos hn0] at e
                    cases e
                    exact z ⟨rfl, hk1⟩
                  · rw [z1, hbot y5]
                    exact ⟨s', by simp, z2⟩
                · obtain ⟨s', z1, z2⟩ := hrest y5
                  refine ⟨ys ++ s', by rw [z1, List.append_assoc], fun w => ?_⟩
                  rcases List.mem_append.1 w with w | w
                  · exact hn50 y5 w
                  · exact z2 w
            · show (if y = 75 then _ else if y < 50 then _ else ∃ ys t, ex y (nt M (a + 5) k) = some (ys, t) ∧ Ac _ N f (ys ++ r) (k + t))
              rw [if_neg x75, if_neg (by omega), ← hnx]
              exact ⟨ys, t, e, hf⟩
        have c76r : c76 r = 0 := c76_no r g5.2.2
        have lv6 : mI M7 a 7 = mI M5 a 7 := by rw [f6]
        rw [List.length_cons] at hlen
        refine ⟨fun x61 => ⟨w6.1.1, (x_MM_rule0 (d := d) (sgs_rule y hxs x61 x75) hnx32 o7 w6 s6 (by omega) (by omega) (by omega)).mono (fun rr M8 p8 => ⟨pq_i32 p8.1, p8.1.1.1, hpq rr M8 p8⟩)⟩, fun x61 => ⟨w6.1.1, (x_MM_item (d := d) (sgs_item y hxs x50 (by omega)) hnx32 o7 w6 s6 (by omega) (by omega) (by omega)).mono (fun rr M8 p8 => ⟨pq_i32 p8.1, p8.1.1.1, hpq rr M8 p8⟩)⟩⟩
      · -- a word is wanted
        intro v hv
        refine ⟨w6.1.1, fun M8 e8 => ?_⟩
        obtain ⟨r8, f8, s8⟩ := r6.fld (v := v) (by split at hv <;> exact i32s (by omega) (by omega)) (Or.inr rfl) e8
        have b8 : mI M8 a 8 = v := by rw [f8, if_pos rfl]
        by_cases z : y = nx
        · rw [if_pos z] at hv
          have ht := sgs_term y hxs (by omega)
          have hk1 : k + 1 < N := by
            refine Classical.byContradiction (fun hk => ?_)
            rw [show k = N - 1 by first | rfl | omega] at hnx
            omega
          have c1 : c75 (y :: r) = c75 r := by show (if y = 75 then 1 else 0) + c75 r = _; rw [if_neg x75]; omega
          have c2 : c76 (y :: r) = c76 r := by show (if y = 76 then 1 else 0) + c76 r = _; rw [if_neg (by omega)]; omega
          have l8 : mI M8 a 7 = mI M5 a 7 := by rw [f8, if_neg (by omega), f6]
          refine ih (k + 1) r M8 ?_ r8 (by omega) (s6.same (s8 _ q11)) ⟨g5.1.2, fun z hz => g5.2.1 z (List.mem_cons_of_mem _ hz), fun q => g5.2.2 (List.mem_of_mem_tail q)⟩ (by omega) (by omega) (Or.inr ⟨hk1, hrest (by omega)⟩) (fun f hf => ac (f + 1) ?_) (fun W hW => (rc W hW).trans (Rc.one (mst_t (by omega) (by rw [hW k hkN, ← hnx]; exact z))))
          · have e : swt (y :: r) = wgt y + swt r := rfl
            have := wgt_pos (x := y)
            omega
          · show (if y = 75 then _ else if y < 50 then nt M (a + 5) k = y ∧ Ac _ N f r (k + 1) else _)
            rw [if_neg x75, if_pos (by omega)]
            exact ⟨by rw [← hnx, z], hf⟩
        · rw [if_neg z] at hv
          exact hbad M8 (k + 1) r8 (by omega) (by omega) (by omega) ⟨k, by rw [b8]; exact hv, fun W hW => (rc W hW).rf (Rf.of (mst_tn (by omega) (by rw [hW k hkN, ← hnx]; exact z)))⟩
end RTX
end
section
/-! The words of a text: pure. c its characters, n how many. -/
def blq (x : Int) : Prop := x = 9 ∨ x = 10 ∨ x = 13 ∨ x = 32
/-- behind blanks and remarks: f characters are left, b within a remark -/
noncomputable def skq (c : Nat → Int) : Nat → Bool → Nat → Nat
  | 0, _, i => i
  | f + 1, b, i => haveI := Classical.propDecidable (c i = 35 ∨ (b = true ∧ c i ≠ 10)); haveI := Classical.propDecidable (blq (c i)); if c i = 35 ∨ (b = true ∧ c i ≠ 10) then skq c f true (i + 1) else if blq (c i) then skq c f false (i + 1) else i
noncomputable def skp (c : Nat → Int) (n i : Nat) : Nat := skq c (n - i) false i
def isDq (x : Int) : Prop := 48 ≤ x ∧ x ≤ 57
def nmq (x : Int) : Prop := isL x ∨ isDq x ∨ x = 95
/-- the first place from i on, within f, where P fails -/
noncomputable def enq (P : Int → Prop) (c : Nat → Int) : Nat → Nat → Nat
  | 0, i => i
  | f + 1, i => haveI := Classical.propDecidable (P (c i)); if P (c i) then enq P c f (i + 1) else i
def lq (c : Nat → Int) (n i : Nat) : Int := if i < n then c i else 0
/-- a sign's kind, by it and the character behind it -/
def sgk (x y : Int) : Int := if x = 46 then (if y = 46 then 16 else 39) else if x = 45 then (if y = 62 then 17 else 25) else if x = 33 then (if y = 61 then 18 else 31) else if x = 60 then (if y = 61 then 19 else 21) else if x = 62 then (if y = 61 then 20 else 22) else if x = 61 then 23 else if x = 43 then 24 else if x = 42 then 26 else if x = 47 then 27 else if x = 37 then 28 else if x = 38 then 29 else if x = 124 then 30 else if x = 63 then 32 else if x = 58 then 33 else if x = 59 then 34 else if x = 44 then 35 else if x = 40 then 36 else if x = 41 then 37 else if x = 39 then 38 else 39
/-- where the word at i ends -/
noncomputable def weq (c : Nat → Int) (n i : Nat) : Nat :=
  haveI := Classical.propDecidable (isL (c i)); haveI := Classical.propDecidable (isDq (c i))
  if isL (c i) then enq nmq c (n - i) i else if isDq (c i) then enq isDq c (n - i) i else if 16 ≤ sgk (c i) (lq c n (i + 1)) ∧ sgk (c i) (lq c n (i + 1)) ≤ 20 then i + 2 else i + 1
/-- its kind; kw tells the kinds of names -/
noncomputable def wkq (kw : Nat → Nat → Int) (c : Nat → Int) (n i : Nat) : Int :=
  haveI := Classical.propDecidable (isL (c i)); haveI := Classical.propDecidable (isDq (c i))
  if isL (c i) then (if 40 < weq c n i - i then 39 else kw i (weq c n i)) else if isDq (c i) then (if 9 < weq c n i - i then 39 else 2) else sgk (c i) (lq c n (i + 1))
/-- where the j-th word begins -/
noncomputable def pwq (c : Nat → Int) (n : Nat) : Nat → Nat
  | 0 => skp c n 0
  | j + 1 => skp c n (weq c n (pwq c n j))
section WQQ
variable {c : Nat → Int} {n i : Nat} {f : Nat} {b : Bool} {P : Int → Prop}
theorem skq_rem (h : c i = 35 ∨ (b = true ∧ c i ≠ 10)) : skq c (f + 1) b i = skq c f true (i + 1) := by rw [skq, if_pos h]
theorem skq_bl (h : ¬ (c i = 35 ∨ (b = true ∧ c i ≠ 10))) (h2 : blq (c i)) : skq c (f + 1) b i = skq c f false (i + 1) := by
  rw [skq, if_neg h, if_pos h2]
theorem skq_end (h : ¬ (c i = 35 ∨ (b = true ∧ c i ≠ 10))) (h2 : ¬ blq (c i)) : skq c (f + 1) b i = i := by
  rw [skq, if_neg h, if_neg h2]
theorem skq_b : ∀ (f : Nat) (b : Bool) (i : Nat), i ≤ skq c f b i ∧ skq c f b i ≤ i + f
  | 0, _, i => ⟨Nat.le_refl _, Nat.le_refl _⟩
  | f + 1, b, i => by
    by_cases h : c i = 35 ∨ (b = true ∧ c i ≠ 10)
    · rw [skq_rem h]
      have := skq_b f true (i + 1)
      omega
    · by_cases h2 : blq (c i)
      · rw [skq_bl h h2]
        have := skq_b f false (i + 1)
        omega
      · rw [skq_end h h2]; omega
theorem skp_b (h : i ≤ n) : i ≤ skp c n i ∧ skp c n i ≤ n := by
  have := skq_b (c := c) (n - i) false i
  unfold skp
  omega
theorem enq_y (h : P (c i)) : enq P c (f + 1) i = enq P c f (i + 1) := by
  rw [enq, if_pos h]
theorem enq_n (h : ¬ P (c i)) : enq P c (f + 1) i = i := by
  rw [enq, if_neg h]
theorem enq_b : ∀ (f i : Nat), i ≤ enq P c f i ∧ enq P c f i ≤ i + f
  | 0, i => ⟨Nat.le_refl _, Nat.le_refl _⟩
  | f + 1, i => by
    by_cases h : P (c i)
    · rw [enq_y h]
      have := enq_b f (i + 1)
      omega
    · rw [enq_n h]; omega
theorem weq_b (h : i < n) : i < weq c n i ∧ weq c n i ≤ n := by
  unfold weq
  obtain ⟨m, hm⟩ : ∃ m, n - i = m + 1 := ⟨n - i - 1, by omega⟩
  by_cases h1 : isL (c i)
  · rw [if_pos h1, hm, enq_y (Or.inl h1)]
    have := enq_b (P := nmq) (c := c) m (i + 1)
    omega
  · rw [if_neg h1]
    by_cases h2 : isDq (c i)
    · rw [if_pos h2, hm, enq_y h2]
      have := enq_b (P := isDq) (c := c) m (i + 1)
      omega
    · rw [if_neg h2]
      split
      · rename_i q
        have hn : i + 1 < n := by
          refine Classical.byContradiction (fun z => ?_)
          have e : lq c n (i + 1) = 0 := if_neg z
          rw [e] at q
          unfold sgk at q
          (repeat' split at q) <;> omega
        omega
      · omega
end WQQ
end
end
section
section
/-! The class's words, exactly. -/
/-- the number that l digits from p on tell -/
def numq (c : Nat → Int) (p : Nat) : Nat → Int
  | 0 => 0
  | l + 1 => 10 * numq c p l + (c (p + l) - 48)
/-- a word as it stands in the class's tables -/
def wdx (kw : (Nat → Int) → Nat → Nat → Int) (c : Nat → Int) (N : Nat) (s st am : Int) (p : Nat) : Prop := s = csq (wkq (kw c) c N p) ∧ st = p ∧ (isL (c p) → am = (weq c N p : Int) - p) ∧ (isDq (c p) → wkq (kw c) c N p ≠ 39 → am = numq c p (weq c N p - p))
/-- what nameSort answers -/
def NSx (G : mG) (kw : (Nat → Int) → Nat → Nat → Int) : Prop := ∀ (d w T A B D N C p n : Nat) (M : mM), mOk M → WA M w T A B D N C → p + n ≤ N → 1 ≤ n → n ≤ 40 → Ci G y_Wo_nameSort (d + 5) [vr w, vi p, vi n] M (fun r M' => M' = M ∧ (2 ≤ r ∧ r ≤ 16 ∧ r ≠ 3) ∧ r = csq (kw (mI M T) p (p + n)))
/-- a word has been taken from place p on -/
def twX (kw : (Nat → Int) → Nat → Nat → Int) (M : mM) (w T A B D N C k p : Nat) (r : Int) (M' : mM) : Prop := twQ M w T A B D N C k p r M' ∧ (∃ s am : Int, wdx kw (mI M T) N s p am p ∧ (∀ i, mI M' A i = if i = k then s else mI M A i) ∧ (∀ i, mI M' B i = if i = k then (p : Int) else mI M B i) ∧ (∀ i, mI M' D i = if i = k then am else mI M D i)) ∧ (wkq (kw (mI M T)) (mI M T) N p = 39 → r = N) ∧ (wkq (kw (mI M T)) (mI M T) N p ≠ 39 → r = weq (mI M T) N p)
/-- long and short signs, by the class's numbers -/
def lsg (x y : Int) : Int := if x = 46 ∧ y = 46 then 17 else if x = 45 ∧ y = 62 then 18 else if y = 61 then (if x = 33 then 19 else if x = 60 then 20 else if x = 62 then 21 else 1) else 1
def ssg (x : Int) : Int := if x = 33 then 32 else if x = 37 then 29 else if x = 38 then 30 else if x = 39 then 39 else if x = 40 then 37 else if x = 41 then 38 else if x = 42 then 27 else if x = 43 then 25 else if x = 44 then 36 else if x = 45 then 26 else if x = 47 then 28 else if x = 58 then 34 else if x = 59 then 35 else if x = 60 then 22 else if x = 61 then 24 else if x = 62 then 23 else if x = 63 then 33 else if x = 124 then 31 else 1
theorem sgn_two {x y y' : Int} (h : y' = y ∨ (y' = 32 ∧ y = 0)) : (lsg x y' ≠ 1 → csq (sgk x y) = lsg x y' ∧ 16 ≤ sgk x y ∧ sgk x y ≤ 20) ∧ (lsg x y' = 1 → csq (sgk x y) = ssg x ∧ ¬ (16 ≤ sgk x y ∧ sgk x y ≤ 20)) := by
  have hy : y = 46 ↔ y' = 46 := by omega
  have hy2 : y = 62 ↔ y' = 62 := by omega
  have hy3 : y = 61 ↔ y' = 61 := by omega
  unfold lsg ssg sgk csq
  by_cases e1 : x = 46
  · subst e1
    by_cases z : y' = 46
    · simp [hy.mpr z, z]
    · have : ¬ y = 46 := fun q => z (hy.mp q)
      simp [z, this]
  · by_cases e2 : x = 45
    · subst e2
      by_cases z : y' = 62
      · simp [hy2.mpr z, z]
      · have : ¬ y = 62 := fun q => z (hy2.mp q)
        simp [z, this]
    · by_cases e3 : x = 33
      · subst e3
        by_cases z : y' = 61
        · simp [hy3.mpr z, z]
        · have : ¬ y = 61 := fun q => z (hy3.mp q)
          simp [z, this]
      · by_cases e4 : x = 60
        · subst e4
          by_cases z : y' = 61
          · simp [hy3.mpr z, z]
          · have : ¬ y = 61 := fun q => z (hy3.mp q)
            simp [z, this]
        · by_cases e5 : x = 62
          · subst e5
            by_cases z : y' = 61
            · simp [hy3.mpr z, z]
            · have : ¬ y = 61 := fun q => z (hy3.mp q)
              simp [z, this]
          · simp only [e1, e2, e3, e4, e5, false_and, if_false, if_true]
            refine ⟨fun q => absurd (by split <;> rfl) q, fun _ => ?_⟩
            clear h hy hy2 hy3
            by_cases f1 : x = 61
            · subst f1; decide +kernel
            by_cases f2 : x = 43
            · subst f2; decide +kernel
            by_cases f3 : x = 42
            · subst f3; decide +kernel
            by_cases f4 : x = 47
            · subst f4; decide +kernel
            by_cases f5 : x = 37
            · subst f5; decide +kernel
            by_cases f6 : x = 38
            · subst f6; decide +kernel
            by_cases f7 : x = 124
            · subst f7; decide +kernel
            by_cases f8 : x = 63
            · subst f8; decide +kernel
            by_cases f9 : x = 58
            · subst f9; decide +kernel
            by_cases f10 : x = 59
            · subst f10; decide +kernel
            by_cases f11 : x = 44
            · subst f11; decide +kernel
            by_cases f12 : x = 40
            · subst f12; decide +kernel
            by_cases f13 : x = 41
            · subst f13; decide +kernel
            by_cases f14 : x = 39
            · subst f14; decide +kernel
            simp only [f1, f2, f3, f4, f5, f6, f7, f8, f9, f10, f11, f12, f13, f14, if_false]
            all_goals decide +kernel
section WXA
variable {G : mG} {d w T A B D N C k : Nat} {M M' M1 : mM} {kw : (Nat → Int) → Nat → Nat → Int}

theorem x_Wo_isLetter {x : Int} (hO : mOk M) (hx : i32 x) : Ci G y_Wo_isLetter d [vi x] M (fun r M' => M' = M ∧ (r = 0 ∨ r = 1) ∧ (r ≠ 0 ↔ isL x)) :=
  k_Wo_isLetter hO hx (fun v e => ⟨rfl, by rw [e]; split <;> omega, by rw [e]; unfold isL; split <;> omega⟩)
theorem x_Wo_longSign {x z : Int} (hO : mOk M) (hx : i32 x) (hz : i32 z) : Ci G y_Wo_longSign d [vi x, vi z] M (fun r M' => M' = M ∧ (r = 1 ∨ (17 ≤ r ∧ r ≤ 21 ∧ z ≠ 32)) ∧ r = lsg x z) := by
  refine k_Wo_longSign hO hx hz ⟨fun q => ⟨rfl, Or.inr (by omega), by unfold lsg; rw [if_pos q]⟩, fun q1 => ⟨fun q => ⟨rfl, Or.inr (by omega), by unfold lsg; rw [if_neg q1, if_pos q]⟩, fun q2 => ⟨fun q v e => ⟨rfl, ?_, by unfold lsg; rw [if_neg q1, if_neg q2, if_pos q]; exact e⟩, fun q => ⟨rfl, Or.inl rfl, by unfold lsg; rw [if_neg q1, if_neg q2, if_neg q]⟩⟩⟩⟩
  rw [e]
  (repeat' split) <;> omega
theorem x_Wo_shortSign {x : Int} (hO : mOk M) (hx : i32 x) : Ci G y_Wo_shortSign d [vi x] M (fun r M' => M' = M ∧ (1 ≤ r ∧ r ≤ 39 ∧ r ≠ 2 ∧ r ≠ 3) ∧ r = ssg x) := by
  refine k_Wo_shortSign hO hx ?_
  unfold ssg
  (repeat' first | (refine ⟨fun e => ⟨rfl, by omega, by rw [if_pos e]⟩, fun e => ?_⟩; rw [if_neg e]) | exact ⟨rfl, by omega, rfl⟩)
theorem x_Wo_afterBlanks {q : Nat} (hO : mOk M) (h : WA M w T A B D N C) (hq : q ≤ N) : Ci G y_Wo_afterBlanks d [vr w, vi q] M (fun r M' => M' = M ∧ r = (skp (mI M T) N q : Int)) := by
  obtain ⟨h1, ⟨p0, p3, p4, p5⟩, ⟨kT, nT⟩, -, -, h6, h7, h8, -⟩ := id h
  refine k_Wo_afterBlanks hO (i32s (by omega) (by omega)) ?_
  suffices H : ∀ (t j : Nat) (b : Int) (bb : Bool), N ≤ j + t → q ≤ j → j ≤ N → (b = 0 ∨ b = 1) → Hid (b ≠ 0 ↔ bb = true) → skp (mI M T) N q = skq (mI M T) (N - j) bb j → h_Wo_afterBlanks_4 G d w b j M (fun r M' => M' = M ∧ r = (skp (mI M T) N q : Int)) from H N q 0 false (by omega) (Nat.le_refl _) hq (Or.inl rfl) ⟨fun z => absurd rfl z, fun z => by cases z⟩ rfl
  intro t
  induction t with
  | zero =>
    intro j b bb hj hqj hjN hb hbb hX
    have e : j = N := by omega
    subst e
    rw [Nat.sub_self] at hX
    refine k_Wo_afterBlanks_4 hO (i32s (by omega) (by omega)) (i32s (by omega) (by omega)) ⟨h1, fun _ => ⟨rfl, by rw [hX, h6]; rfl⟩, fun z => absurd (by omega) z⟩
  | succ t ih =>
    intro j b bb hj hqj hjN hb hbb hX
    refine k_Wo_afterBlanks_4 hO (i32s (by omega) (by omega)) (i32s (by omega) (by omega)) ⟨h1, fun z => ?_, fun z => ?_⟩
    · have e : j = N := by omega
      subst e
      rw [Nat.sub_self] at hX
      exact ⟨rfl, by rw [hX, h6]; rfl⟩
    rw [p0, Int.toNat_natCast]
    have ej : N - j = (N - (j + 1)) + 1 := by omega
    rw [ej] at hX
    refine ⟨kT, by omega, fun v e => ?_⟩
    have key : (mI M T j = 35 ∨ (¬ b = 0 ∧ ¬ mI M T j = 10)) ↔ (mI M T j = 35 ∨ (bb = true ∧ mI M T j ≠ 10)) := by
      have := (show _ ↔ _ from hbb)
      exact or_congr Iff.rfl (and_congr this Iff.rfl)
    by_cases y : mI M T j = 35 ∨ (¬ b = 0 ∧ ¬ mI M T j = 10)
    · rw [if_pos y] at e
      rw [skq_rem (key.mp y)] at hX
      refine ⟨fun _ => ?_, fun z2 => absurd (Or.inl (by omega)) z2⟩
      rw [e]
      exact ih (j + 1) 1 true (by omega) (by omega) (by omega) (Or.inr rfl) ⟨fun _ => rfl, fun _ => by decide⟩ hX
    · rw [if_neg y] at e
      have y2 : ¬ (mI M T j = 35 ∨ (bb = true ∧ mI M T j ≠ 10)) := fun q2 => y (key.mpr q2)
      refine ⟨fun z2 => ?_, fun z2 => ?_⟩
      · have bl : blq (mI M T j) := by
          rcases z2 with z2 | z2
          · exact absurd e z2
          · exact z2
        rw [skq_bl y2 bl] at hX
        rw [e]
        exact ih (j + 1) 0 false (by omega) (by omega) (by omega) (Or.inl rfl) ⟨fun z3 => absurd rfl z3, fun z3 => by cases z3⟩ hX
      · have bl : ¬ blq (mI M T j) := fun q2 => z2 (Or.inr q2)
        rw [skq_end y2 bl] at hX
        exact ⟨rfl, by rw [hX]⟩
end WXA
end
section
/-! The class's words, exactly: a number, a name, a word. -/
section WXB
variable {G : mG} {d w T A B D N C k : Nat} {M M' M1 : mM} {kw : (Nat → Int) → Nat → Nat → Int}
theorem x_Wo_add2 {s st am : Int} (hs : i32 s) (hst : i32 st) (ham : i32 am) (hO : mOk M) (h : WA M w T A B D N C) (hi : WI M w A B D N k) (hkN : k < N) (hC2 : C ≤ 16777216) (hw : wdk N s st am) : Cv G y_Wo_add d [vr w, vi s, vi st, vi am] M (fun M' => (mOk M' ∧ FI (woA w A B D) M M' ∧ WA M' w T A B D N C ∧ WI M' w A B D N (k + 1)) ∧ (∀ i, mI M' A i = if i = k then s else mI M A i) ∧ (∀ i, mI M' B i = if i = k then st else mI M B i) ∧ (∀ i, mI M' D i = if i = k then am else mI M D i)) := by
  have h8 := h.2.2.2.2.2.2.2.1
  refine (s_Wo_add hs hst ham hO h hi.1 (by omega) hC2).mono (fun M' q => ?_)
  obtain ⟨o, f, h', e2, eA, eB, eD⟩ := q
  exact ⟨⟨o, f, h', hi.add hw e2 eA eB eD⟩, eA, eB, eD⟩
theorem weq_dg {c : Nat → Int} {n i : Nat} (h : isDq (c i)) : weq c n i = enq isDq c (n - i) i := by
  have : ¬ isL (c i) := by unfold isL isDq at *; omega
  unfold weq
  rw [if_neg this, if_pos h]
theorem wkq_dg {c : Nat → Int} {n i : Nat} {k1 : Nat → Nat → Int} (h : isDq (c i)) : wkq k1 c n i = if 9 < weq c n i - i then 39 else 2 := by
  have : ¬ isL (c i) := by unfold isL isDq at *; omega
  unfold wkq
  rw [if_neg this, if_pos h]
theorem weq_lt {c : Nat → Int} {n i : Nat} (h : isL (c i)) : weq c n i = enq nmq c (n - i) i := by
  unfold weq
  rw [if_pos h]
theorem wkq_lt {c : Nat → Int} {n i : Nat} {k1 : Nat → Nat → Int} (h : isL (c i)) : wkq k1 c n i = if 40 < weq c n i - i then 39 else k1 i (weq c n i) := by
  unfold wkq
  rw [if_pos h]
theorem weq_sg {c : Nat → Int} {n i : Nat} (h : ¬ isL (c i)) (h2 : ¬ isDq (c i)) : weq c n i = if 16 ≤ sgk (c i) (lq c n (i + 1)) ∧ sgk (c i) (lq c n (i + 1)) ≤ 20 then i + 2 else i + 1 := by
  unfold weq
  rw [if_neg h, if_neg h2]
theorem wkq_sg {c : Nat → Int} {n i : Nat} {k1 : Nat → Nat → Int} (h : ¬ isL (c i)) (h2 : ¬ isDq (c i)) : wkq k1 c n i = sgk (c i) (lq c n (i + 1)) := by
  unfold wkq
  rw [if_neg h, if_neg h2]
theorem x_Wo_takeNumber {p : Nat} (hO : mOk M) (h : WA M w T A B D N C) (hi : WI M w A B D N k) (hkN : k < N) (hC2 : C ≤ 16777216) (hp : p < N) (hc : 48 ≤ mI M T p ∧ mI M T p ≤ 57) : Ci G y_Wo_takeNumber (d + 1) [vr w, vi p] M (twX kw M w T A B D N C k p) := by
  obtain ⟨h1, ⟨p0, p3, p4, p5⟩, ⟨kT, nT⟩, -, -, h6, h7, h8, -⟩ := id h
  refine k_Wo_takeNumber hO (i32s (by omega) (by omega)) ?_
  have pw : ∀ n, n ≤ 9 → (10 : Int) ^ n ≤ 1000000000 := by decide
  have hdg : isDq (mI M T p) := hc
  have hnl : ¬ isL (mI M T p) := by unfold isL; omega
  have hwk := wkq_dg (n := N) (k1 := kw (mI M T)) hdg
  have hwe := weq_dg (n := N) hdg
  -- the end
  have fin : ∀ {v : Int} {j : Nat}, p < j → j ≤ N → 0 ≤ v → v ≤ 999999999 → weq (mI M T) N p = j → Hid (j - p ≤ 9 → v = numq (mI M T) p (j - p)) → i32 ((j : Int) - p) ∧ ∀ v6 : Int, v6 = (if (9 < (j : Int) - p) then 0 else 1) → ∀ v12 : Int, v12 = (if (v6 = 0) then 1 else 3) → Cv G y_Wo_add d [vr w, vi v12, vi p, vi v] M (fun M16 => mOk M16 ∧ (((v6 = 0) → mK M16 w = 2) ∧ ∀ v21 : Int, v21 = (if (v6 = 0) then mI M16 w 1 else j) → twX kw M w T A B D N C k p v21 M16)) := fun {v j} hj hjN v0 v1 ew hv => by
    refine ⟨i32s (by omega) (by omega), fun v6 e6 v12 e12 => ?_⟩
    have b12 : v12 = 1 ∨ v12 = 3 := by rw [e12]; split <;> omega
    refine (x_Wo_add2 (i32s (by omega) (by omega)) (i32s (by omega) (by omega)) ⟨by omega, by omega⟩ hO h hi hkN hC2 ⟨by omega, by omega, by omega, by omega⟩).mono (fun M16 q => ?_)
    obtain ⟨⟨o, f, h', i'⟩, eA, eB, eD⟩ := q
    refine ⟨o, fun _ => h'.1, fun v21 e21 => ⟨⟨o, f, h', i', ?_⟩, ⟨v12, v, ⟨?_, rfl, fun q => absurd q hnl, fun _ q => ?_⟩, eA, eB, eD⟩, ?_⟩⟩
    · by_cases y : v6 = 0
      · rw [if_pos y, h'.2.2.2.2.2.1] at e21
        exact ⟨N, e21, by omega, Nat.le_refl _⟩
      · rw [if_neg y] at e21
        exact ⟨j, e21, hj, hjN⟩
    · by_cases y : 9 < j - p
      · have z6 : v6 = 0 := by rw [e6, if_pos (by omega)]
        rw [hwk, ew, if_pos y, e12, if_pos z6]; decide
      · have z6 : ¬ v6 = 0 := by rw [e6, if_neg (by omega)]; decide
        rw [hwk, ew, if_neg y, e12, if_neg z6]; decide
    · rw [hwk, ew] at q
      have y : ¬ 9 < j - p := fun z => q (by rw [if_pos z])
      rw [ew]
      exact (show _ → _ from hv) (by omega)
    · rw [hwk, ew]
      by_cases y : 9 < j - p
      · rw [if_pos y]
        rw [if_pos (by omega)] at e6
        rw [if_pos e6, h'.2.2.2.2.2.1] at e21
        exact ⟨fun _ => e21, fun q => absurd rfl q⟩
      · rw [if_neg y]
        rw [if_neg (by omega)] at e6
        rw [if_neg (by omega)] at e21
        exact ⟨fun q => absurd q (by decide), fun _ => e21⟩
  suffices H : ∀ (t j : Nat) (v : Int), N ≤ j + t → p ≤ j → j ≤ N → (p < j ∨ j = p) → 0 ≤ v → v ≤ 999999999 → (j - p ≤ 9 → v + 1 ≤ (10 : Int) ^ (j - p)) → enq isDq (mI M T) (N - p) p = enq isDq (mI M T) (N - j) j → Hid (j - p ≤ 9 → v = numq (mI M T) p (j - p)) → h_Wo_takeNumber_4 G d w p v j M (twX kw M w T A B D N C k p) from H N p 0 (by omega) (Nat.le_refl _) (by omega) (Or.inr rfl) (by omega) (by omega) (fun _ => by rw [Nat.sub_self]; decide) rfl (fun _ => by rw [Nat.sub_self]; rfl)
  intro t
  induction t with
  | zero =>
    intro j v hj hpj hjN hd v0 v1 hv hX hV
    have ejN : j = N := by omega
    have ew : weq (mI M T) N p = j := by rw [hwe, hX, ejN, Nat.sub_self]; rfl
    exact k_Wo_takeNumber_4 hO (i32s (by omega) (by omega)) ⟨by omega, by omega⟩ (i32s (by omega) (by omega)) ⟨h1, fun _ => fin (by omega) hjN v0 v1 ew hV, fun z => absurd (by omega) z⟩
  | succ t ih =>
    intro j v hj hpj hjN hd v0 v1 hv hX hV
    refine k_Wo_takeNumber_4 hO (i32s (by omega) (by omega)) ⟨by omega, by omega⟩ (i32s (by omega) (by omega)) ⟨h1, fun z => ?_, fun z => ?_⟩
    · have ejN : j = N := by omega
      have ew : weq (mI M T) N p = j := by rw [hwe, hX, ejN, Nat.sub_self]; rfl
      exact fin (by omega) hjN v0 v1 ew hV
    have ej : N - j = (N - (j + 1)) + 1 := by omega
    rw [ej] at hX
    rw [p0, Int.toNat_natCast]
    refine ⟨kT, by omega, (s_Wo_isDigit hO (hO _ _).1).mono (fun x M2 q => ?_)⟩
    obtain ⟨e2, hx, ex⟩ := q
    subst e2
    rw [p0]
    refine ⟨i32s (by omega) (by omega), hO, fun x0 => ?_, fun x0 => ?_⟩
    · have pj : p < j := by
        rcases hd with y | y
        · exact y
        · subst y
          exact absurd (ex.2 hc) (fun z => z x0)
      have nd : ¬ isDq (mI M2 T j) := fun q => ex.2 q x0
      rw [enq_n nd] at hX
      obtain ⟨f1, f2⟩ := fin pj hjN v0 v1 (by rw [hwe, hX]) hV
      exact ⟨f1, fun v42 e42 v48 e48 => ⟨h1, f2 v42 e42 v48 e48⟩⟩
    · have dg := ex.1 x0
      clear ex
      rw [enq_y (P := isDq) dg] at hX
      refine ⟨i32s (by omega) (by omega), fun _ => ⟨h1, kT, by omega⟩, fun v70 e70 => ?_⟩
      have st : h_Wo_takeNumber_4 G d w p v70 ((j + 1 : Nat) : Int) M2 (twX kw M2 w T A B D N C k p) := by
        by_cases y : (9 : Int) ≤ (j : Int) - p
        · rw [if_pos y] at e70
          subst e70
          exact ih (j + 1) 0 (by omega) (by omega) (by omega) (Or.inl (by omega)) (by omega) (by omega) (fun z => by omega) hX (fun z => by omega)
        · rw [if_neg y] at e70
          have a1 := hv (by omega)
          have a2 := pw (j + 1 - p) (by omega)
          have a3 : (10 : Int) ^ (j + 1 - p) = 10 ^ (j - p) * 10 := by rw [show j + 1 - p = (j - p) + 1 by first | rfl | omega, Int.pow_succ]
          have a4 : v = numq (mI M2 T) p (j - p) := (show _ → _ from hV) (by omega)
          have a5 : Hid (j + 1 - p ≤ 9 → v70 = numq (mI M2 T) p (j + 1 - p)) := fun _ => by
            rw [show j + 1 - p = (j - p) + 1 by first | rfl | omega]
            show v70 = 10 * numq (mI M2 T) p (j - p) + (mI M2 T (p + (j - p)) - 48)
            rw [← a4, show p + (j - p) = j by first | rfl | omega]
            exact e70
          exact ih (j + 1) v70 (by omega) (by omega) (by omega) (Or.inl (by omega)) (by omega) (by omega) (fun _ => by omega) hX a5
      exact st
theorem x_Wo_takeName {p : Nat} (hNS : NSx G kw) (hO : mOk M) (h : WA M w T A B D N C) (hi : WI M w A B D N k) (hkN : k < N) (hC2 : C ≤ 16777216) (hp : p < N) (hlt : isL (mI M T p)) : Ci G y_Wo_takeName (d + 6) [vr w, vi p] M (twX kw M w T A B D N C k p) := by
  obtain ⟨h1, ⟨p0, p3, p4, p5⟩, ⟨kT, nT⟩, -, -, h6, h7, h8, -⟩ := id h
  refine k_Wo_takeName hO (i32s (by omega) (by omega)) ?_
  have hnd : ¬ isDq (mI M T p) := by unfold isL isDq at *; omega
  have hwk := wkq_lt (n := N) (k1 := kw (mI M T)) hlt
  have hwe := weq_lt (n := N) hlt
  have fin : ∀ {v s : Int} {j : Nat}, p < j → j ≤ N → (v = 0 ∧ s = 1 ∨ v = 1 ∧ j ≤ p + 40 ∧ 2 ≤ s ∧ s ≤ 16 ∧ s ≠ 3) → weq (mI M T) N p = j → s = csq (wkq (kw (mI M T)) (mI M T) N p) → Hid (v = 0 ↔ 40 < j - p) → h_Wo_takeName_84 G (d + 5) w p j v w s M (twX kw M w T A B D N C k p) := fun {v s j} hj hjN hv ew es hv0 => by
    refine k_Wo_takeName_84 hO (i32s (by omega) (by omega)) (i32s (by omega) (by omega)) (i32s (by omega) (by omega)) (i32s (by omega) (by omega)) ⟨h1, ?_⟩
    refine (x_Wo_add2 (i32s (by omega) (by omega)) (i32s (by omega) (by omega)) (i32s (by omega) (by omega)) hO h hi hkN hC2 ⟨by omega, by omega, by omega, by omega⟩).mono (fun M16 q => ?_)
    obtain ⟨⟨o, f, h', i'⟩, eA, eB, eD⟩ := q
    refine ⟨o, fun _ => h'.1, fun v21 e21 => ⟨⟨o, f, h', i', ?_⟩, ⟨s, (j : Int) - p, ⟨es, rfl, fun _ => by rw [ew], fun q => absurd q hnd⟩, eA, eB, eD⟩, ?_⟩⟩
    · by_cases y : v = 0
      · rw [if_pos y, h'.2.2.2.2.2.1] at e21
        exact ⟨N, e21, by omega, Nat.le_refl _⟩
      · rw [if_neg y] at e21
        exact ⟨j, e21, hj, hjN⟩
    · rw [hwk] at es ⊢
      rw [ew] at es ⊢
      have hv1 := (show _ ↔ _ from hv0)
      by_cases y : 40 < j - p
      · rw [if_pos y]
        rw [if_pos (hv1.mpr y), h'.2.2.2.2.2.1] at e21
        exact ⟨fun _ => e21, fun q => absurd rfl q⟩
      · rw [if_neg y] at es ⊢
        have vn : ¬ v = 0 := fun q => y (hv1.mp q)
        rw [if_neg vn] at e21
        refine ⟨fun q => ?_, fun _ => e21⟩
        rw [q] at es
        have : csq 39 = 1 := by decide
        rw [this] at es
        omega
  have sor : ∀ {j : Nat}, p < j → j ≤ N → weq (mI M T) N p = j → i32 ((j : Int) - p) ∧ ∀ v6 : Int, v6 = (if (40 < (j : Int) - p) then 0 else 1) → ((v6 = 0) → (h_Wo_takeName_84 G (d + 5) w p j v6 w 1 M (twX kw M w T A B D N C k p))) ∧ (¬ (v6 = 0) → (Ci G y_Wo_nameSort (d + 5) [vr w, vi p, vi ((j : Int) - p)] M (fun x14 M13 => i32 x14 ∧ mOk M13 ∧ (h_Wo_takeName_84 G (d + 5) w p j v6 w x14 M13 (twX kw M w T A B D N C k p))))) := fun {j} hj hjN ew => by
    refine ⟨i32s (by omega) (by omega), fun v6 e6 => ⟨fun z => ?_, fun z => ?_⟩⟩
    · have y : (40 : Int) < (j : Int) - p := Classical.byContradiction (fun y => by rw [if_neg y] at e6; omega)
      refine fin hj hjN (Or.inl ⟨z, rfl⟩) ew ?_ ⟨fun _ => by omega, fun _ => z⟩
      rw [hwk, ew, if_pos (by omega)]
      decide
    have j40 : j ≤ p + 40 ∧ v6 = 1 := by
      by_cases y : (40 : Int) < (j : Int) - p
      · rw [if_pos y] at e6
        exact absurd e6 z
      · rw [if_neg y] at e6
        exact ⟨by omega, e6⟩
    have t := hNS d w T A B D N C p (j - p) M hO h (by omega) (by omega) (by omega)
    rw [show ((j - p : Nat) : Int) = (j : Int) - p by first | rfl | omega, show p + (j - p) = j by first | rfl | omega] at t
    refine t.mono (fun x M2 q => ?_)
    obtain ⟨e2, ⟨x1, x2, x3⟩, x4⟩ := q
    subst e2
    refine ⟨i32s (by omega) (by omega), hO, fin hj hjN (Or.inr ⟨j40.2, j40.1, x1, x2, x3⟩) ew ?_ ⟨fun q => absurd q z, fun q => by omega⟩⟩
    rw [hwk, ew, if_neg (by omega)]
    exact x4
  suffices H : ∀ (t j : Nat), N ≤ j + t → p < j → j ≤ N → enq nmq (mI M T) (N - p) p = enq nmq (mI M T) (N - j) j → h_Wo_takeName_4 G (d + 5) w p j M (twX kw M w T A B D N C k p) from H N (p + 1) (by omega) (by omega) (by omega) (by
    rw [show N - p = (N - (p + 1)) + 1 by first | rfl | omega]
    exact enq_y (P := nmq) (Or.inl hlt))
  intro t
  induction t with
  | zero =>
    intro j hj hpj hjN hX
    have ejN : j = N := by omega
    have ew : weq (mI M T) N p = j := by rw [hwe, hX, ejN, Nat.sub_self]; rfl
    exact k_Wo_takeName_4 hO (i32s (by omega) (by omega)) (i32s (by omega) (by omega)) ⟨h1, fun _ => sor hpj hjN ew, fun z => absurd (by omega) z⟩
  | succ t ih =>
    intro j hj hpj hjN hX
    refine k_Wo_takeName_4 hO (i32s (by omega) (by omega)) (i32s (by omega) (by omega)) ⟨h1, fun z => ?_, fun z => ?_⟩
    · have ejN : j = N := by omega
      have ew : weq (mI M T) N p = j := by rw [hwe, hX, ejN, Nat.sub_self]; rfl
      exact sor hpj hjN ew
    have ej : N - j = (N - (j + 1)) + 1 := by omega
    rw [ej] at hX
    rw [p0, Int.toNat_natCast]
    have go : nmq (mI M T j) → h_Wo_takeName_4 G (d + 5) w p ((j : Int) + 1) M (twX kw M w T A B D N C k p) := fun q => ih (j + 1) (by omega) (by omega) (by omega) (by rw [hX]; exact enq_y (P := nmq) q)
    refine ⟨kT, by omega, (x_Wo_isLetter hO (hO _ _).1).mono (fun x M2 q => ?_)⟩
    obtain ⟨e2, hx, hxl⟩ := q
    subst e2
    rw [p0]
    refine ⟨i32s (by omega) (by omega), hO, fun x0 => ⟨h1, kT, by omega, (s_Wo_isDigit hO (hO _ _).1).mono (fun x M3 q => ?_)⟩, fun x0 => go (Or.inl (hxl.mp x0))⟩
    obtain ⟨e3, hx', hxd⟩ := q
    subst e3
    rw [p0]
    refine ⟨i32s (by omega) (by omega), hO, fun _ => ⟨h1, kT, by omega⟩, fun q => go ?_, fun q => ?_⟩
    · rcases q with q | q
      · exact Or.inr (Or.inl (hxd.mp q))
      · exact Or.inr (Or.inr q)
    · have nn : ¬ nmq (mI M3 T j) := fun q2 => by
        rcases q2 with q2 | q2 | q2
        · exact hxl.mpr q2 x0
        · exact q (Or.inl (hxd.mpr q2))
        · exact q (Or.inr q2)
      rw [enq_n nn] at hX
      obtain ⟨f1, f2⟩ := sor hpj hjN (by rw [hwe, hX])
      exact ⟨f1, fun v40 e40 => ⟨(f2 v40 e40).1, fun z => ⟨h1, (f2 v40 e40).2 z⟩⟩⟩
end WXB
end
section
/-! The class's words, exactly: split. -/
/-- the class's n words -/
def spx (kw : (Nat → Int) → Nat → Nat → Int) (c : Nat → Int) (N : Nat) (M : mM) (A B D n : Nat) : Prop := (∀ i, i < n → pwq c N i < N ∧ wdx kw c N (mI M A i) (mI M B i) (mI M D i) (pwq c N i)) ∧ (∀ i, i + 1 < n → wkq (kw c) c N (pwq c N i) ≠ 39) ∧ ((pwq c N n = N ∧ ∀ i, i < n → wkq (kw c) c N (pwq c N i) ≠ 39) ∨ (1 ≤ n ∧ wkq (kw c) c N (pwq c N (n - 1)) = 39))
/-- k words have been taken, at place j -/
def spI (kw : (Nat → Int) → Nat → Nat → Int) (c : Nat → Int) (N : Nat) (M : mM) (A B D k j : Nat) : Prop := (∀ i, i < k → pwq c N i < N ∧ wdx kw c N (mI M A i) (mI M B i) (mI M D i) (pwq c N i)) ∧ (∀ i, i + 1 < k → wkq (kw c) c N (pwq c N i) ≠ 39) ∧ ((j = pwq c N k ∧ ∀ i, i < k → wkq (kw c) c N (pwq c N i) ≠ 39) ∨ (j = N ∧ 1 ≤ k ∧ wkq (kw c) c N (pwq c N (k - 1)) = 39))
section WXC
variable {G : mG} {d w T A B D N C k n j : Nat} {M M' M1 M2 M3 : mM} {kw : (Nat → Int) → Nat → Nat → Int} {c : Nat → Int}
theorem spI.fin (h : spI kw c N M A B D k j) (hj : j = N) (eA : ∀ i, i < k → mI M' A i = mI M A i) (eB : ∀ i, i < k → mI M' B i = mI M B i) (eD : ∀ i, i < k → mI M' D i = mI M D i) : spx kw c N M' A B D k := by
  obtain ⟨h1, h2, h3⟩ := h
  refine ⟨fun i hi => ?_, h2, ?_⟩
  · rw [eA i hi, eB i hi, eD i hi]; exact h1 i hi
  · rcases h3 with ⟨h3, h4⟩ | ⟨-, h4, h5⟩
    · exact Or.inl ⟨by rw [← h3]; exact hj, h4⟩
    · exact Or.inr ⟨h4, h5⟩
theorem spI.step {s am : Int} {r r' : Nat} (h : spI kw c N M A B D k j) (hj : j < N) (hw : wdx kw c N s j am j) (eA : ∀ i, mI M' A i = if i = k then s else mI M A i) (eB : ∀ i, mI M' B i = if i = k then (j : Int) else mI M B i) (eD : ∀ i, mI M' D i = if i = k then am else mI M D i) (h39 : wkq (kw c) c N j = 39 → r = N) (hn : wkq (kw c) c N j ≠ 39 → r = weq c N j) (hr : r' = skp c N r) : spI kw c N M' A B D (k + 1) r' := by
  obtain ⟨h1, h2, h3⟩ := h
  rcases h3 with ⟨h3, h4⟩ | ⟨h3, -⟩
  · subst h3
    refine ⟨fun i hi => ?_, fun i hi => h4 i (by omega), ?_⟩
    · rw [eA, eB, eD]
      by_cases y : i = k
      · rw [if_pos y, if_pos y, if_pos y, y]; exact ⟨hj, hw⟩
      · rw [if_neg y, if_neg y, if_neg y]; exact h1 i (by omega)
    · by_cases y : wkq (kw c) c N (pwq c N k) = 39
      · right
        have e := h39 y
        subst e
        refine ⟨by rw [hr]; unfold skp; rw [Nat.sub_self]; rfl, by omega, ?_⟩
        rw [show k + 1 - 1 = k by first | rfl | omega]; exact y
      · left
        refine ⟨by rw [hr, hn y]; rfl, fun i hi => ?_⟩
        by_cases z : i = k
        · rw [z]; exact y
        · exact h4 i (by omega)
  · omega
theorem x_Wo_takeWord {p : Nat} (hNS : NSx G kw) (hO : mOk M) (h : WA M w T A B D N C) (hi : WI M w A B D N k) (hkN : k < N) (hC2 : C ≤ 16777216) (hp : p < N) : Ci G y_Wo_takeWord (d + 7) [vr w, vi p] M (twX kw M w T A B D N C k p) := by
  obtain ⟨h1, ⟨p0, p3, p4, p5⟩, ⟨kT, nT⟩, -, -, h6, h7, h8, -⟩ := id h
  refine k_Wo_takeWord hO (i32s (by omega) (by omega)) ?_
  rw [p0, Int.toNat_natCast]
  have fin : ∀ {s : Int} {j : Nat}, ¬ isL (mI M T p) → ¬ isDq (mI M T p) → p < j → (s = 1 ∨ j ≤ N) → 1 ≤ s → s ≤ 39 → s ≠ 2 → s ≠ 3 → j ≤ N + 2 → s = csq (sgk (mI M T p) (lq (mI M T) N (p + 1))) → weq (mI M T) N p = j → h_Wo_takeWord_86 G (d + 6) w p s j M (twX kw M w T A B D N C k p) := fun {s j} nl nd hj hjN s1 s2 s3 s4 j2 es ew => by
    refine k_Wo_takeWord_86 hO (i32s (by omega) (by omega)) (i32s (by omega) (by omega)) (i32s (by omega) (by omega)) ⟨h1, ?_⟩
    refine (x_Wo_add2 (i32s (by omega) (by omega)) (i32s (by omega) (by omega)) (i32s (by omega) (by omega)) hO h hi hkN hC2 ⟨⟨s1, s2⟩, by omega, by omega, by omega⟩).mono (fun M16 q => ?_)
    obtain ⟨⟨o, f, h', i'⟩, eA, eB, eD⟩ := q
    have hwk := wkq_sg (n := N) (k1 := kw (mI M T)) nl nd
    have c1 : s = 1 ↔ wkq (kw (mI M T)) (mI M T) N p = 39 := by
      rw [hwk, es]
      generalize sgk (mI M T p) (lq (mI M T) N (p + 1)) = y at *
      have hy : s = csq y := es
      clear es
      constructor
      · intro q
        unfold csq at q
        (repeat' split at q) <;> omega
      · intro q; rw [q]; decide
    refine ⟨o, fun _ => h'.1, fun v21 e21 => ⟨⟨o, f, h', i', ?_⟩, ⟨s, 0, ⟨by rw [hwk]; exact es, rfl, fun q => absurd q nl, fun q => absurd q nd⟩, eA, eB, eD⟩, fun q => ?_, fun q => ?_⟩⟩
    · by_cases y : s = 1
      · rw [if_pos y, h'.2.2.2.2.2.1] at e21
        exact ⟨N, e21, by omega, Nat.le_refl _⟩
      · rw [if_neg y] at e21
        exact ⟨j, e21, hj, by omega⟩
    · rw [if_pos (c1.mpr q), h'.2.2.2.2.2.1] at e21
      exact e21
    · rw [if_neg (fun z => q (c1.mp z))] at e21
      rw [ew]; exact e21
  refine ⟨h1, kT, by omega, (x_Wo_isLetter hO (hO _ _).1).mono (fun x M2 q => ?_)⟩
  obtain ⟨e2, hx, hxl⟩ := q
  subst e2
  refine ⟨i32s (by omega) (by omega), hO, fun x0 => (s_Wo_isDigit hO (hO _ _).1).mono (fun x' M3 q => ?_), fun x0 => ⟨h1, (x_Wo_takeName hNS hO h hi hkN hC2 hp (hxl.mp x0)).mono (fun r M4 q => ?_)⟩⟩
  · obtain ⟨e3, hx', ex⟩ := q
    subst e3
    have nl : ¬ isL (mI M3 T p) := fun q => hxl.mpr q x0
    refine ⟨i32s (by omega) (by omega), hO, fun y0 => ?_, fun y0 => ⟨h1, (x_Wo_takeNumber (kw := kw) hO h hi hkN hC2 hp (ex.1 y0)).mono (fun r M4 q => ?_)⟩⟩
    · have nd : ¬ isDq (mI M3 T p) := fun q => ex.2 q y0
      clear ex hxl
      rw [p0]
      refine ⟨h1, i32s (by omega) (by omega), fun _ => ⟨kT, by omega⟩, fun v22 e22 => ?_⟩
      have i22 : i32 v22 := by
        rw [e22]
        split
        · exact ⟨by decide, by decide⟩
        · exact (hO _ _).1
      have nxt : v22 = lq (mI M3 T) N (p + 1) ∨ (v22 = 32 ∧ lq (mI M3 T) N (p + 1) = 0) := by
        unfold lq
        by_cases y : p + 1 < N
        · rw [if_pos y]
          rw [if_neg (by omega), show ((p : Int) + 1).toNat = p + 1 by first | rfl | omega] at e22
          exact Or.inl e22
        · rw [if_neg y]
          rw [if_pos (by omega)] at e22
          exact Or.inr ⟨e22, rfl⟩
      have two := sgn_two (x := mI M3 T p) nxt
      have hwe := weq_sg (n := N) nl nd
      refine (x_Wo_longSign hO (hO _ _).1 i22).mono (fun s M4 q => ?_)
      obtain ⟨e4, hs, es⟩ := q
      subst e4
      refine ⟨i32s (by omega) (by omega), hO, fun s1 => (x_Wo_shortSign hO (hO _ _).1).mono (fun s' M5 q => ?_), fun s1 => ?_⟩
      · obtain ⟨e5, ⟨b1, b2, b3, b4⟩, es'⟩ := q
        subst e5
        obtain ⟨t1, t2⟩ := two.2 (by rw [← es]; exact s1)
        rw [if_neg t2] at hwe
        exact ⟨i32s (by omega) (by omega), hO, fin (j := p + 1) nl nd (by omega) (Or.inr (by omega)) b1 b2 b3 b4 (by omega) (by rw [t1]; exact es') hwe⟩
      · obtain ⟨t1, t2⟩ := two.1 (by rw [← es]; exact s1)
        rw [if_pos t2] at hwe
        have pN : p + 2 ≤ N := by
          have := (weq_b (c := mI M4 T) hp).2
          omega
        clear two t2
        exact fin (j := p + 2) nl nd (by omega) (Or.inr pN) (by omega) (by omega) (by omega) (by omega) (by omega) (by rw [t1]; exact es) hwe
    · obtain ⟨⟨o, f, h', i', j, ej, j1, j2⟩, -⟩ := id q
      exact ⟨i32s (by omega) (by omega), o, q⟩
  · obtain ⟨⟨o, f, h', i', j, ej, j1, j2⟩, -⟩ := id q
    exact ⟨i32s (by omega) (by omega), o, q⟩
theorem x_Wo_split (hNS : NSx G kw) (hO : mOk M) (h : WB M w A B D C) (kT : mK M T = 32) (nT : N ≤ mN M T) (hN : N ≤ 16384) (zT : T < mZ M) : Cv G y_Wo_split (d + 8) [vr w, vr T, vi N] M (fun M' => ∃ A' B' D' C' n, mOk M' ∧ Wf M' w T A' B' D' N C' n ∧ WB M' w A' B' D' C' ∧ C' ≤ C + 2 * (N + 2) ∧ FA (woA w A B D) (fun x => x = w) M M' ∧ grw M A B D C M' A' B' D' C' ∧ spx kw (mI M T) N M' A' B' D' n) := by
  have nw : T ≠ w := fun e => by have := h.1; rw [← e, kT] at this; omega
  have z0 := h.2.2.2.2.2.1
  refine k_Wo_split hO (i32s (by omega) (by omega)) ⟨h.1, fun M2 e2 M4 e4 M6 e6 => ?_⟩
  have hw3 : ∀ i, i ≠ 0 → mR M6 w i = mR M w i := fun i hi => by rw [e6, mR_UI, e4, mR_UI, e2, mR_UR, if_neg (fun z => hi z.2)]
  have K6 : mK M6 = mK M := by rw [e6, e4, e2]; rfl
  have N6 : mN M6 = mN M := by rw [e6, e4, e2]; rfl
  have Z6 : mZ M6 = mZ M := by rw [e6, e4, e2]; rfl
  have S6 : mS M6 = mS M := by rw [e6, e4, e2]; rfl
  have T6 : mR M6 w 0 = T := by rw [e6, mR_UI, e4, mR_UI, e2, mR_UR, if_pos ⟨rfl, rfl⟩]
  have i1 : mI M6 w 1 = N := by rw [e6, mI_UI, if_neg (fun z => absurd z.2 (by decide)), e4, mI_UI, if_pos ⟨rfl, rfl⟩]
  have i2 : mI M6 w 2 = 0 := by rw [e6, mI_UI, if_pos ⟨rfl, rfl⟩]
  have o2 : mOk M2 := by rw [e2]; exact mOk_UR hO
  have o4 : mOk M4 := by rw [e4]; exact mOk_UI o2 (i32s (by omega) (by omega))
  have o6 : mOk M6 := by rw [e6]; exact mOk_UI o4 (i32s (by omega) (by omega))
  have B6 : WB M6 w A B D C := by
    unfold WB at h ⊢
    rw [K6, N6, Z6, hw3 3 (by decide), hw3 4 (by decide), hw3 5 (by decide)]
    exact h
  have g2 : FA (woA w A B D) (fun x => x = w) M M2 := FA.ur rfl e2
  have g4 : FA (woA w A B D) (fun x => x = w) M2 M4 := FI.fa (by rw [e4]; exact FI.ui (Or.inl rfl))
  have g6' : FA (woA w A B D) (fun x => x = w) M4 M6 := FI.fa (by rw [e6]; exact FI.ui (Or.inl rfl))
  have g6 := (g2.trans g4).trans g6'
  have t6 := s_Wo_reserve (G := G) (d := d + 7) (q := N + 2) o6 B6 (by omega)
  rw [show ((N + 2 : Nat) : Int) = (N : Int) + 2 by first | rfl | omega] at t6
  rw [i1]
  refine t6.mono (fun M8 q => ?_)
  obtain ⟨A', B', D', C', o8, B8, q1, q2, g8, r8, gr⟩ := q
  have w6 : w < mZ M6 := by omega
  have c8 := g8.2 w w6
  have cT := g8.2 T (by omega)
  have h8 : WA M8 w T A' B' D' N C' := B8.wa (by rw [r8 0 (by decide) (by decide) (by decide)]; exact T6) (by rw [cT.1, K6]; exact kT) (by rw [cT.2.1, N6]; exact nT) (by rw [c8.2.2.2.2 (fun z => z)]; exact i1) hN (by omega)
  have w8 : WI M8 w A' B' D' N 0 := ⟨by rw [c8.2.2.2.2 (fun z => z)]; exact i2, fun i hi => absurd hi (by omega)⟩
  have C2 : C' ≤ 16777216 := by have := B8.2.2.2.2.2.2; omega
  have G8 : FA (woA w A B D) (fun x => x = w) M M8 := g6.trans2 g8 (fun _ _ z => z.elim) (fun _ _ z => z)
  have gr0 : grw M A B D C M8 A' B' D' C' := by
    unfold grw at gr ⊢
    rw [Z6, S6] at gr
    exact gr
  have TA : T ≠ A ∧ T ≠ B ∧ T ≠ D := by
    obtain ⟨-, -, ⟨a1, a2, a3⟩, -⟩ := h
    refine ⟨fun e => ?_, fun e => ?_, fun e => ?_⟩ <;> rw [e] at kT <;> omega
  have T8 : mI M8 T = mI M T := (G8.2 T zT).2.2.2.2 (fun z => by
    have z' : T = w ∨ T = A ∨ T = B ∨ T = D := z
    omega)
  have TA8 := h8.ne.2.2.2
  -- later steps
  have fin : ∀ {M9 : mM} {n : Nat}, mOk M9 → FI (woA w A' B' D') M8 M9 → Wf M9 w T A' B' D' N C' n → spx kw (mI M T) N M9 A' B' D' n → ∃ A' B' D' C' n, mOk M9 ∧ Wf M9 w T A' B' D' N C' n ∧ WB M9 w A' B' D' C' ∧ C' ≤ C + 2 * (N + 2) ∧ FA (woA w A B D) (fun x => x = w) M M9 ∧ grw M A B D C M9 A' B' D' C' ∧ spx kw (mI M T) N M9 A' B' D' n := fun {M9 n} o f hf hsp => by
    refine ⟨A', B', D', C', n, o, hf, B8.fi f, by omega, G8.trans2 (FI.fa (R := fun x => x = w) f) (fun x hx z => ?_) (fun _ _ z => z), ?_, hsp⟩
    · rcases gr0 with ⟨y1, y2, y3, -⟩ | ⟨y1, y2, y3, -⟩
      · rw [y1, y2, y3] at z
        exact z
      · have z' : x = w ∨ x = A' ∨ x = B' ∨ x = D' := z
        exact Or.inl (by omega)
    · unfold grw at gr0 ⊢
      rw [f.2.2.2.2.1, f.2.2.2.2.2.1]
      exact gr0
  refine ⟨o8, B8.1, (x_Wo_afterBlanks (q := 0) o8 h8 (by omega)).mono (fun x M9 q => ?_)⟩
  obtain ⟨e9, ex⟩ := q
  subst e9
  rw [T8] at ex
  have j0 := skp_b (c := mI M T) (n := N) (i := 0) (by omega)
  have ej : pwq (mI M T) N 0 = skp (mI M T) N 0 := rfl
  generalize skp (mI M T) N 0 = j at *
  have jN : j ≤ N := j0.2
  subst ex
  refine ⟨i32s (by omega) (by omega), o8, ?_⟩
  suffices H : ∀ (t k j : Nat) (M2 : mM), N ≤ j + t → k ≤ j → j ≤ N → mOk M2 → FI (woA w A' B' D') M9 M2 → WA M2 w T A' B' D' N C' → WI M2 w A' B' D' N k → spI kw (mI M T) N M2 A' B' D' k j → h_Wo_split_34 G (d + 7) w j k M2 (fun M' => ∃ A' B' D' C' n, mOk M' ∧ Wf M' w T A' B' D' N C' n ∧ WB M' w A' B' D' C' ∧ C' ≤ C + 2 * (N + 2) ∧ FA (woA w A B D) (fun x => x = w) M M' ∧ grw M A B D C M' A' B' D' C' ∧ spx kw (mI M T) N M' A' B' D' n) from H N 0 j M9 (by omega) (by omega) jN o8 FI.refl h8 w8 ⟨fun i hi => absurd hi (by omega), fun i hi => absurd hi (by omega), Or.inl ⟨ej.symm, fun i hi => absurd hi (by omega)⟩⟩
  intro t
  induction t with
  | zero =>
    intro k j M2 hj hkj hjN o f hA hI hS
    refine k_Wo_split_34 o (i32s (by omega) (by omega)) (i32s (by omega) (by omega)) ⟨hA.1, fun _ => ?_, fun y => absurd (Or.inr (by rw [hA.2.2.2.2.2.1]; omega)) y⟩
    rw [hA.2.2.2.2.2.1]
    refine (s_Wo_add (i32s (by omega) (by omega)) (i32s (by omega) (by omega)) (i32s (by omega) (by omega)) o hA hI.1 (by omega) C2).mono (fun M3 q => ?_)
    obtain ⟨o3, f3, A3, e3, eA, eB, eD⟩ := q
    refine ⟨o3, fin (n := k) o3 (f.trans f3) ⟨A3, e3, by omega, fun i hi => ?_, by rw [eA, if_pos rfl], by rw [eB, if_pos rfl]⟩ (hS.fin (by omega) (fun i hi => by rw [eA, if_neg (Nat.ne_of_lt hi)]) (fun i hi => by rw [eB, if_neg (Nat.ne_of_lt hi)]) (fun i hi => by rw [eD, if_neg (Nat.ne_of_lt hi)]))⟩
    rw [eA, eB, eD, if_neg (by omega), if_neg (by omega), if_neg (by omega)]
    exact hI.2 i hi
  | succ t ih =>
    intro k j M2 hj hkj hjN o f hA hI hS
    have e1 := hA.2.2.2.2.2.1
    refine k_Wo_split_34 o (i32s (by omega) (by omega)) (i32s (by omega) (by omega)) ⟨hA.1, fun yj => ?_, fun y => ?_⟩
    · rw [e1]
      refine (s_Wo_add (i32s (by omega) (by omega)) (i32s (by omega) (by omega)) (i32s (by omega) (by omega)) o hA hI.1 (by omega) C2).mono (fun M3 q => ?_)
      obtain ⟨o3, f3, A3, e3, eA, eB, eD⟩ := q
      refine ⟨o3, fin (n := k) o3 (f.trans f3) ⟨A3, e3, by omega, fun i hi => ?_, by rw [eA, if_pos rfl], by rw [eB, if_pos rfl]⟩ (hS.fin (by omega) (fun i hi => by rw [eA, if_neg (Nat.ne_of_lt hi)]) (fun i hi => by rw [eB, if_neg (Nat.ne_of_lt hi)]) (fun i hi => by rw [eD, if_neg (Nat.ne_of_lt hi)]))⟩
      rw [eA, eB, eD, if_neg (by omega), if_neg (by omega), if_neg (by omega)]
      exact hI.2 i hi
    · have jN' : j < N ∧ k < N := by
        constructor
        · exact Nat.lt_of_not_le (fun z => y (Or.inr (by omega)))
        · exact Nat.lt_of_not_le (fun z => y (Or.inl (by omega)))
      refine (x_Wo_takeWord hNS o hA hI jN'.2 C2 jN'.1).mono (fun r M3 q => ?_)
      obtain ⟨⟨o3, f3, A3, I3, j3, ej3, l3, u3⟩, ⟨s9, am9, q1', eA, eB, eD⟩, q39, qn⟩ := q
      subst ej3
      have T2 : mI M2 T = mI M T := by
        rw [← T8]
        exact f.2.2.2.2.2.2 T (fun z => by
          have z' : T = w ∨ T = A' ∨ T = B' ∨ T = D' := z
          omega)
      have T3 : mI M3 T = mI M T := by
        rw [← T2]
        exact f3.2.2.2.2.2.2 T (fun z => by
          have z' : T = w ∨ T = A' ∨ T = B' ∨ T = D' := z
          omega)
      rw [T2] at q1' q39 qn
      refine ⟨i32s (by omega) (by omega), o3, A3.1, (x_Wo_afterBlanks (q := j3) o3 A3 u3).mono (fun r M4 q => ?_)⟩
      obtain ⟨e4, ex4⟩ := q
      subst e4
      rw [T3] at ex4
      have b4 := skp_b (c := mI M T) u3
      have S4 := hS.step (r := j3) jN'.1 q1' eA eB eD (fun z => Int.ofNat_inj.mp (q39 z)) (fun z => Int.ofNat_inj.mp (qn z)) rfl
      clear q39 qn q1' eA eB eD
      generalize skp (mI M T) N j3 = j4 at *
      obtain ⟨l4, u4⟩ := b4
      subst ex4
      refine ⟨i32s (by omega) (by omega), o3, ?_⟩
      have := ih (k + 1) j4 M4 (by omega) (by omega) u4 o3 (f.trans f3) A3 I3 S4
      rw [show ((k + 1 : Nat) : Int) = (k : Int) + 1 by first | rfl | omega] at this
      exact this
end WXC
end
end
