section
section
variable {G : mG} {d a : Nat} {M M2 : mM} {st : List Int} {lv nx : Int}
theorem x_MM_rule0 {x : Int} (hx : x = 61 ∨ x = 62 ∨ x = 63 ∨ x = 64 ∨ x = 65 ∨ x = 66 ∨ x = 67 ∨ x = 68 ∨ x = 69 ∨ x = 70 ∨ x = 71 ∨ x = 72 ∨ x = 73 ∨ x = 74 ∨ x = 76) (hn : i32 nx) (hO : mOk M) (h : Wd M a) (hs : St M (a + 11) st) (hl : st.length ≤ 700) (h1 : -900 ≤ mI M a 7) (h2 : mI M a 7 ≤ 900) : Ci G y_MM_rule0 (d + 3) [vr a, vi x, vi nx] M (pQx M a st x nx) := by
  have s0 := SI.start hO h hs
  have hxb : 61 ≤ x ∧ x ≤ 76 := by omega
  have i2 : ∀ u : Int, 0 ≤ u → u ≤ 100 → i32 u := fun u a b => i32s (by omega) (by omega)
  refine k_MM_rule0 hO (i32s (by omega) (by omega)) hn ⟨fun w => ?_, fun n1 => ⟨fun w => ?_, fun n2 => ⟨fun w => ?_, fun n3 => ⟨fun w => ?_, fun n4 => ⟨fun w => ?_, fun n5 => ⟨fun w => ?_, fun n6 => ⟨fun w => ?_, fun n7 => ⟨fun w => ?_, fun n8 => ⟨fun w => ?_, fun n9 => ⟨fun w => ?_, fun n10 => ⟨fun w => ?_, fun n11 => ⟨fun w => ?_, fun n12 => ⟨fun w => ?_, fun n13 => ⟨fun w => ?_, fun n14 => ?_⟩⟩⟩⟩⟩⟩⟩⟩⟩⟩⟩⟩⟩⟩
  · subst w
    rw [s0.r6]
    exact ⟨s0.k, s0.k6, s0.two (by omega) (i2 _ (by omega) (by omega)) (i2 _ (by omega) (by omega)) (fun M3 h3 => h3.donex (ys := [63, 62]) (t := 0) rfl (dl0 (by decide) (by decide) (by omega)) (Or.inl rfl))⟩
  · subst w
    have e0 : ex 62 nx = ex62 nx := rfl
    unfold ex62 at e0
    refine ⟨fun w => ⟨s0.k, (x_MM_ask (d := d) s0 (by omega) (by omega) (by omega)).mono (fun r M2 h2 => ?_)⟩, fun w => ?_⟩
    · obtain ⟨h2, hr⟩ := h2
      rw [if_pos w] at e0
      rcases hr with ⟨q, q2⟩ | ⟨q, q2⟩
      · subst q
        exact ⟨i32s (by omega) (by omega), h2.ok, k_MM_rule0_114 h2.ok (i32s (by omega) (by omega)) (h2.fail1 e0 (by decide) q2)⟩
      · subst q
        exact ⟨i32s (by omega) (by omega), h2.ok, k_MM_rule0_114 h2.ok (i32s (by omega) (by omega)) (h2.donex (ys := [61, 33, 61, 75]) (t := 1) e0 (dl1 (by decide) (by decide) (by omega)) (Or.inr q2))⟩
    · rw [if_neg w] at e0
      exact k_MM_rule0_114 s0.ok (i32s (by omega) (by omega)) (s0.donex (ys := []) (t := 0) e0 (dl0 rfl rfl (by omega)) (Or.inl rfl))
  · subst w
    rw [s0.r6]
    exact ⟨s0.k, s0.k6, s0.two (by omega) (i2 _ (by omega) (by omega)) (i2 _ (by omega) (by omega)) (fun M3 h3 => h3.donex (ys := [65, 64]) (t := 0) rfl (dl0 (by decide) (by decide) (by omega)) (Or.inl rfl))⟩
  · subst w
    intro v hv
    have e0 : ex 64 nx = ex64 nx := rfl
    unfold ex64 at e0
    refine ⟨s0.k, (s_MM_again (d := d + 1) s0 (by omega) (by split at hv <;> exact i32s (by omega) (by omega)) (i2 _ (by omega) (by omega)) (i2 _ (by omega) (by omega))).mono (fun r M3 h3 => ag_donex s0 (by omega) (by decide) (fun w => ?_) (fun w => ?_) h3)⟩
    · rw [if_pos (by split at hv <;> omega)] at e0; exact e0
    · rw [if_neg (by split at hv <;> omega)] at e0; exact e0
  · subst w
    rw [s0.r6]
    exact ⟨s0.k, s0.k6, s0.two (by omega) (i2 _ (by omega) (by omega)) (i2 _ (by omega) (by omega)) (fun M3 h3 => h3.donex (ys := [67, 66]) (t := 0) rfl (dl0 (by decide) (by decide) (by omega)) (Or.inl rfl))⟩
  · subst w
    intro v hv
    have e0 : ex 66 nx = ex66 nx := rfl
    unfold ex66 at e0
    refine ⟨s0.k, (s_MM_again (d := d + 1) s0 (by omega) (by split at hv <;> exact i32s (by omega) (by omega)) (i2 _ (by omega) (by omega)) (i2 _ (by omega) (by omega))).mono (fun r M3 h3 => ag_donex s0 (by omega) (by decide) (fun w => ?_) (fun w => ?_) h3)⟩
    · rw [if_pos (by split at hv <;> omega)] at e0; exact e0
    · rw [if_neg (by split at hv <;> omega)] at e0; exact e0
  · subst w
    have e0 : ex 67 nx = ex67 nx := rfl
    unfold ex67 at e0
    rw [s0.r6]
    refine ⟨fun w => ⟨s0.k, s0.k6, s0.two (by omega) (i2 _ (by omega) (by omega)) (i2 _ (by omega) (by omega)) (fun M3 h3 => ⟨h3.k, (h3.levelx (by omega) (by omega)).mono (fun r M4 h4 => ?_)⟩)⟩, fun w => ⟨s0.k, s0.k6, s0.two (by omega) (i2 _ (by omega) (by omega)) (i2 _ (by omega) (by omega)) (fun M3 h3 => ?_)⟩⟩
    · obtain ⟨h4, r1, r2, r3⟩ := h4
      rw [if_pos w] at e0
      refine ⟨i32s (by omega) (by omega), h4.ok, fun v hv => ?_⟩
      by_cases q : r = 0
      · rw [if_pos q] at hv; subst hv; exact h4.fail1 e0 (by decide) (r3 q)
      · rw [if_neg q] at hv; subst hv
        exact h4.donex (ys := [67, 75]) (t := 1) e0 (dl1 (by decide) (by decide) (by omega)) (Or.inr (r2 q))
    · rw [if_neg w] at e0
      exact h3.donex (ys := [69, 68]) (t := 0) e0 (dl0 (by decide) (by decide) (by omega)) (Or.inl rfl)
  · subst w
    have e0 : ex 68 nx = ex68 nx := rfl
    unfold ex68 at e0
    refine (s_MM_isComparison hn hO).mono (fun r M2 h2 => ?_)
    obtain ⟨e2, r1, r2⟩ := h2
    subst e2
    rw [s0.r6]
    refine ⟨i32s (by omega) (by omega), hO, fun q => ?_, fun q => ⟨s0.k, s0.k6, (s0.push (by omega) (i2 _ (by omega) (by omega))).mono (fun M3 h3 => ⟨h3.ok, ?_⟩)⟩⟩
    · rw [if_neg (fun w => r2.2 w q)] at e0
      exact s0.donex (ys := []) (t := 0) e0 (dl0 rfl rfl (by omega)) (Or.inl rfl)
    · rw [if_pos (r2.1 q)] at e0
      exact h3.donex (ys := [69]) (t := 1) e0 (dl0 (by decide) (by decide) (by omega)) (Or.inl rfl)
  · subst w
    rw [s0.r6]
    exact ⟨s0.k, s0.k6, s0.two (by omega) (i2 _ (by omega) (by omega)) (i2 _ (by omega) (by omega)) (fun M3 h3 => h3.donex (ys := [71, 70]) (t := 0) rfl (dl0 (by decide) (by decide) (by omega)) (Or.inl rfl))⟩
  · subst w
    intro v hv
    have e0 : ex 70 nx = ex70 nx := rfl
    unfold ex70 at e0
    refine ⟨s0.k, (s_MM_again (d := d + 1) s0 (by omega) (by split at hv <;> exact i32s (by omega) (by omega)) (i2 _ (by omega) (by omega)) (i2 _ (by omega) (by omega))).mono (fun r M3 h3 => ag_donex s0 (by omega) (by decide) (fun w => ?_) (fun w => ?_) h3)⟩
    · rw [if_pos (by split at hv <;> omega)] at e0; exact e0
    · rw [if_neg (by split at hv <;> omega)] at e0; exact e0
  · subst w
    rw [s0.r6]
    exact ⟨s0.k, s0.k6, s0.two (by omega) (i2 _ (by omega) (by omega)) (i2 _ (by omega) (by omega)) (fun M3 h3 => h3.donex (ys := [73, 72]) (t := 0) rfl (dl0 (by decide) (by decide) (by omega)) (Or.inl rfl))⟩
  · subst w
    intro v hv
    have e0 : ex 72 nx = ex72 nx := rfl
    unfold ex72 at e0
    refine ⟨s0.k, (s_MM_again (d := d + 1) s0 (by omega) (by split at hv <;> exact i32s (by omega) (by omega)) (i2 _ (by omega) (by omega)) (i2 _ (by omega) (by omega))).mono (fun r M3 h3 => ag_donex s0 (by omega) (by decide) (fun w => ?_) (fun w => ?_) h3)⟩
    · rw [if_pos (by split at hv <;> omega)] at e0; exact e0
    · rw [if_neg (by split at hv <;> omega)] at e0; exact e0
  · subst w
    intro v hv
    have e0 : ex 74 nx = ex74 nx := rfl
    unfold ex74 at e0
    refine ⟨s0.k, (s_MM_again (d := d + 1) s0 (by omega) (by split at hv <;> exact i32s (by omega) (by omega)) (i2 _ (by omega) (by omega)) (i2 _ (by omega) (by omega))).mono (fun r M3 h3 => ag_donex s0 (by omega) (by decide) (fun w => ?_) (fun w => ?_) h3)⟩
    · rw [if_pos (by split at hv <;> omega)] at e0; exact e0
    · rw [if_neg (by split at hv <;> omega)] at e0; exact e0
  · subst w
    have e0 : ex 76 nx = ex76 nx := rfl
    unfold ex76 at e0
    refine ⟨fun w => ⟨s0.k, (s0.levelx (by omega) (by omega)).mono (fun r M4 h4 => ?_)⟩, fun w => k_MM_rule0_408 hO (i32s (by omega) (by omega)) (s0.fail0 (by rw [if_neg w] at e0; exact e0))⟩
    obtain ⟨h4, r1, r2, r3⟩ := h4
    rw [if_pos w] at e0
    exact ⟨i32s (by omega) (by omega), h4.ok, fun q => k_MM_rule0_408 h4.ok (i32s (by omega) (by omega)) (h4.fail1 e0 (by decide) (r3 q)), fun q => k_MM_rule0_408 h4.ok (i32s (by omega) (by omega)) (h4.donex (ys := []) (t := 1) e0 (by unfold dlv; rw [if_pos rfl]; show _ = _ + (((0 : Nat) : Int) - ((0 : Nat) : Int) + 1); omega) (Or.inr (r2 q)))⟩
  · have w : x = 73 := by omega
    subst w
    exact ⟨s0.k, (x_MM_sign (d := d) hn hO h hs hl h1 h2).mono (fun r M2 h2 => ⟨pq_i32 h2.1, h2.1.1.1, h2⟩)⟩

end
end
