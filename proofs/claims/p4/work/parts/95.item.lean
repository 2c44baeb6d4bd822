/-! The reference: one step of the grammar. -/
section IT
variable {G : mG} {d a : Nat} {M : mM} {st : List Int} {nx : Int}
theorem SI.start (hO : mOk M) (h : Wd M a) (hs : St M (a + 11) st) : SI M a st (mI M a 7) M := ⟨Mv.refl hO h (fun q hq => by rw [hq]; exact h.lt q11), fun _ _ => rfl, hs, rfl⟩
theorem i32s {x : Int} (h0 : -100000 ≤ x) (h1 : x ≤ 100000) : i32 x := ⟨by omega, by omega⟩
theorem dl0 {M : mM} {a : Nat} {x : Int} {ys : List Int} (h1 : c75 ys = 0) (h2 : c76 ys = 0) (h3 : x ≠ 76) : mI M a 7 = mI M a 7 + dlv x ys := by unfold dlv; rw [h1, h2, if_neg h3]; omega
theorem dl1 {M : mM} {a : Nat} {x : Int} {ys : List Int} (h1 : c75 ys = 1) (h2 : c76 ys = 0) (h3 : x ≠ 76) : mI M a 7 + 1 = mI M a 7 + dlv x ys := by unfold dlv; rw [h1, h2, if_neg h3]; omega
theorem s_MM_anItem (hn : i32 nx) (hO : mOk M) (h : Wd M a) (hs : St M (a + 11) st) (hl : st.length ≤ 700) : Ci G y_MM_anItem (d + 2) [vr a, vi nx] M (pQ M a st 50 nx) := by
  have s0 := SI.start hO h hs
  have e50 : ex 50 nx = ex50 nx := rfl
  unfold ex50 at e50
  refine k_MM_anItem hO hn ⟨fun w => ?_, fun w => ?_⟩
  · rw [if_pos w] at e50
    exact s0.done (ys := []) (t := 1) e50 (dl0 rfl rfl (by omega)) (Or.inl rfl)
  · rw [if_neg w] at e50
    rw [s0.r6]
    refine ⟨s0.k, s0.k6, s0.two (by omega) (i32s (by omega) (by omega)) (i32s (by omega) (by omega)) (fun M3 h3 => ?_)⟩
    rw [h3.r6]
    have hz : ∀ ys, c75 ys = 0 → c76 ys = 0 → mI M a 7 = mI M a 7 + dlv 50 ys := fun ys h1 h2 => by unfold dlv; rw [h1, h2, if_neg (by omega)]; omega
    refine ⟨fun w1 => ⟨h3.k, h3.k6, (h3.push (by simp only [List.length_cons]; omega) (i32s (by omega) (by omega))).mono (fun M4 h4 => ?_)⟩, fun w1 => ⟨fun w2 => ⟨h3.k, h3.k6, (h3.push (by simp only [List.length_cons]; omega) (i32s (by omega) (by omega))).mono (fun M4 h4 => ⟨h4.ok, h4.k, (s_MM_want (d := d) h4 (by simp only [List.length_cons]; omega) (i32s (by omega) (by omega)) (i32s (by omega) (by omega)) (i32s (by omega) (by omega))).mono (fun M5 h5 => ?_)⟩)⟩, fun w2 => ⟨fun w3 => ⟨h3.k, h3.k6, (h3.push (by simp only [List.length_cons]; omega) (i32s (by omega) (by omega))).mono (fun M4 h4 => ⟨h4.ok, h4.k, (s_MM_want (d := d) h4 (by simp only [List.length_cons]; omega) (i32s (by omega) (by omega)) (i32s (by omega) (by omega)) (i32s (by omega) (by omega))).mono (fun M5 h5 => ?_)⟩)⟩, fun w3 => ⟨fun w4 => ⟨h3.k, h3.k6, (h3.push (by simp only [List.length_cons]; omega) (i32s (by omega) (by omega))).mono (fun M4 h4 => ?_)⟩, fun w4 => ?_⟩⟩⟩⟩
    · rw [if_pos w1] at e50
      exact ⟨h4.ok, h4.done (ys := [51, 34, 50]) (t := 1) e50 (hz _ (by decide) (by decide)) (Or.inl rfl)⟩
    · rw [if_neg w1, if_pos w2] at e50
      exact ⟨h5.ok, h5.done (ys := [1, 33, 53, 54, 34, 50]) (t := 1) e50 (hz _ (by decide) (by decide)) (Or.inl rfl)⟩
    · rw [if_neg w1, if_neg w2, if_pos w3] at e50
      exact ⟨h5.ok, h5.done (ys := [61, 17, 56, 57, 34, 50]) (t := 1) e50 (hz _ (by decide) (by decide)) (Or.inl rfl)⟩
    · rw [if_neg w1, if_neg w2, if_neg w3, if_pos w4] at e50
      exact ⟨h4.ok, h4.done (ys := [61, 34, 50]) (t := 1) e50 (hz _ (by decide) (by decide)) (Or.inl rfl)⟩
    · exact h3.fail
theorem s_MM_set0 (hn : i32 nx) (hO : mOk M) (h : Wd M a) (hs : St M (a + 11) st) (hl : st.length ≤ 700) (h1 : -900 ≤ mI M a 7) (h2 : mI M a 7 ≤ 900) : Ci G y_MM_set0 (d + 2) [vr a, vi nx] M (pQ M a st 59 nx) := by
  have s0 := SI.start hO h hs
  have e0 : ex 59 nx = ex59 nx := rfl
  unfold ex59 at e0
  refine k_MM_set0 hO hn ⟨fun w => ⟨s0.k, (s0.level (by omega) (by omega)).mono (fun r M2 h2 => ?_)⟩, fun w => s0.fail⟩
  obtain ⟨h2, r1, r2⟩ := h2
  rw [if_pos w] at e0
  refine ⟨⟨by omega, by omega⟩, h2.ok, fun q => h2.fail, fun q => ?_⟩
  rw [h2.r6]
  refine ⟨h2.k, h2.k6, (h2.push (by omega) (i32s (by omega) (by omega))).mono (fun M3 h3 => ?_)⟩
  rw [h3.r6]
  refine ⟨h3.ok, h3.k, h3.k6, (h3.push (by simp only [List.length_cons]; omega) (i32s (by omega) (by omega))).mono (fun M4 h4 => ?_)⟩
  rw [h4.r6]
  refine ⟨h4.ok, h4.k, h4.k6, (h4.push (by simp only [List.length_cons]; omega) (i32s (by omega) (by omega))).mono (fun M5 h5 => ⟨h5.ok, h5.k, (s_MM_want (d := d) h5 (by simp only [List.length_cons]; omega) (i32s (by omega) (by omega)) (i32s (by omega) (by omega)) (i32s (by omega) (by omega))).mono (fun M6 h6 => ?_)⟩)⟩
  exact ⟨h6.ok, h6.done (ys := [1, 38, 23, 61, 37, 75]) (t := 1) e0 (dl1 (by decide) (by decide) (by omega)) (Or.inr (r2 q))⟩
/-- again's two ends -/
theorem ag_done {x u v g r : Int} {M3 : mM} (s0 : SI M a st (mI M a 7) M) (hx : x ≠ 76) (hv : c75 [v, u] = 0 ∧ c76 [v, u] = 0) (e1 : g ≠ 0 → ex x nx = some ([v, u], 1)) (e2 : g = 0 → ex x nx = some ([], 0)) (h : (g = 0 ∧ r = 0 ∧ M3 = M) ∨ (g ≠ 0 ∧ r = 1 ∧ SI M a (v :: u :: st) (mI M a 7) M3)) : i32 r ∧ mOk M3 ∧ pQ M a st x nx r M3 := by
  rcases h with ⟨h1, h2, h3⟩ | ⟨h1, h2, h3⟩
  · subst h2 h3
    exact ⟨i32s (by omega) (by omega), s0.ok, s0.done (ys := []) (t := 0) (e2 h1) (dl0 rfl rfl hx) (Or.inl rfl)⟩
  · subst h2
    exact ⟨i32s (by omega) (by omega), h3.ok, h3.done (ys := [v, u]) (t := 1) (e1 h1) (dl0 hv.1 hv.2 hx) (Or.inl rfl)⟩
theorem s_MM_item {x : Int} (hx : x = 50 ∨ x = 51 ∨ x = 53 ∨ x = 54 ∨ x = 56 ∨ x = 57 ∨ x = 58 ∨ x = 59 ∨ x = 60) (hn : i32 nx) (hO : mOk M) (h : Wd M a) (hs : St M (a + 11) st) (hl : st.length ≤ 700) (h1 : -900 ≤ mI M a 7) (h2 : mI M a 7 ≤ 900) : Ci G y_MM_item (d + 3) [vr a, vi x, vi nx] M (pQ M a st x nx) := by
  have s0 := SI.start hO h hs
  refine k_MM_item hO (by rcases hx with q | q | q | q | q | q | q | q | q <;> rw [q] <;> exact i32s (by omega) (by omega)) hn ⟨fun w => ⟨s0.k, ?_⟩, fun w50 => ⟨fun w => ⟨s0.k, ?_⟩, fun w51 => ⟨fun w => ?_, fun w53 => ⟨fun w => ?_, fun w54 => ⟨fun w => ⟨s0.k, ?_⟩, fun w56 => ⟨fun w => ?_, fun w57 => ⟨fun w => ?_, fun w58 => ⟨fun w => ?_, fun w60 => ⟨s0.k, ?_⟩⟩⟩⟩⟩⟩⟩⟩⟩
  · subst w
    refine (s_MM_anItem (d := d) hn hO h hs hl).mono (fun r M2 h2 => ⟨?_, h2.1.1, h2⟩)
    rcases h2.2.2 with q | ⟨ys, t, e, q, -⟩
    · rw [q]; exact i32s (by omega) (by omega)
    · have c := ex_chk e
      unfold chk at c
      simp only [Bool.and_eq_true, decide_eq_true_eq] at c
      exact i32s (by omega) (by omega)
  · subst w
    refine (s_MM_want (d := d + 1) s0 (by omega) (i32s (by omega) (by omega)) (i32s (by omega) (by omega)) (i32s (by omega) (by omega))).mono (fun M2 h2 => ⟨h2.ok, h2.done (ys := [1, 23, 61]) (t := 0) rfl (dl0 (by decide) (by decide) (by omega)) (Or.inl rfl)⟩)
  · subst w
    have e0 : ex 53 nx = ex53 nx := rfl
    unfold ex53 at e0
    refine ⟨fun w => ?_, fun w => ⟨s0.k, (s_MM_want (d := d + 1) s0 (by omega) (i32s (by omega) (by omega)) (i32s (by omega) (by omega)) (i32s (by omega) (by omega))).mono (fun M2 h2 => ⟨h2.ok, ?_⟩)⟩⟩
    · rw [if_pos w] at e0
      exact s0.done (ys := []) (t := 1) e0 (dl0 rfl rfl (by omega)) (Or.inl rfl)
    · rw [if_neg w] at e0
      exact h2.done (ys := [61, 16, 61]) (t := 0) e0 (dl0 (by decide) (by decide) (by omega)) (Or.inl rfl)
  · subst w
    have e0 : ex 54 nx = ex54 nx := rfl
    unfold ex54 at e0
    rw [s0.r6]
    refine ⟨fun w => ⟨s0.k, s0.k6, (s0.push (by omega) (i32s (by omega) (by omega))).mono (fun M2 h2 => ⟨h2.ok, ?_⟩)⟩, fun w => ?_⟩
    · rw [if_pos w] at e0
      exact h2.done (ys := [61]) (t := 1) e0 (dl0 (by decide) (by decide) (by omega)) (Or.inl rfl)
    · rw [if_neg w] at e0
      exact s0.done (ys := []) (t := 0) e0 (dl0 rfl rfl (by omega)) (Or.inl rfl)
  · subst w
    refine (s_MM_want (d := d + 1) s0 (by omega) (i32s (by omega) (by omega)) (i32s (by omega) (by omega)) (i32s (by omega) (by omega))).mono (fun M2 h2 => ⟨h2.ok, h2.done (ys := [63, 33, 58]) (t := 0) rfl (dl0 (by decide) (by decide) (by omega)) (Or.inl rfl)⟩)
  · subst w
    intro v hv
    have e0 : ex 57 nx = ex57 nx := rfl
    unfold ex57 at e0
    refine ⟨s0.k, (s_MM_again (d := d + 1) s0 (by omega) (by split at hv <;> exact i32s (by omega) (by omega)) (i32s (by omega) (by omega)) (i32s (by omega) (by omega))).mono (fun r M3 h3 => ag_done s0 (by omega) (by decide) (fun w => ?_) (fun w => ?_) h3)⟩
    · rw [if_pos (by split at hv <;> omega)] at e0; exact e0
    · rw [if_neg (by split at hv <;> omega)] at e0; exact e0
  · subst w
    have e0 : ex 58 nx = ex58 nx := rfl
    unfold ex58 at e0
    rw [s0.r6]
    refine ⟨fun w => ?_, fun w => ⟨s0.k, s0.k6, s0.two (by omega) (i32s (by omega) (by omega)) (i32s (by omega) (by omega)) (fun M3 h3 => ?_)⟩⟩
    · rw [if_pos w] at e0
      exact s0.done (ys := []) (t := 1) e0 (dl0 rfl rfl (by omega)) (Or.inl rfl)
    · rw [if_neg w] at e0
      exact h3.done (ys := [59, 60]) (t := 0) e0 (dl0 (by decide) (by decide) (by omega)) (Or.inl rfl)
  · subst w
    intro v hv
    have e0 : ex 60 nx = ex60 nx := rfl
    unfold ex60 at e0
    refine ⟨s0.k, (s_MM_again (d := d + 1) s0 (by omega) (by split at hv <;> exact i32s (by omega) (by omega)) (i32s (by omega) (by omega)) (i32s (by omega) (by omega))).mono (fun r M3 h3 => ag_done s0 (by omega) (by decide) (fun w => ?_) (fun w => ?_) h3)⟩
    · rw [if_pos (by split at hv <;> omega)] at e0; exact e0
    · rw [if_neg (by split at hv <;> omega)] at e0; exact e0
  · have w59 : x = 59 := by omega
    subst w59
    refine (s_MM_set0 (d := d) hn hO h hs hl h1 h2).mono (fun r M2 h2 => ⟨?_, h2.1.1, h2⟩)
    rcases h2.2.2 with q | ⟨ys, t, e, q, -⟩
    · rw [q]; exact i32s (by omega) (by omega)
    · have c := ex_chk e
      unfold chk at c
      simp only [Bool.and_eq_true, decide_eq_true_eq] at c
      exact i32s (by omega) (by omega)
end IT
