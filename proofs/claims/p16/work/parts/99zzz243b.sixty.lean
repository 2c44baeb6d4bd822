/-! A state has at most as many commands as the text. -/
section SXT
variable {ev : List Int → Nat → Nat → vrs} {stp : List Int → List (Nat × Nat × Nat × Nat) → (Int × Int) × List Int} {sg : List Int} {nb c : Nat} {cm : cm9} {s : sl9} {cms : List cm9} {tg : Nat × Nat} {M : mM} {g cn : Nat}
theorem tcq_len : (tcq9 ev stp sg nb c cm s).2.2.2.length ≤ s.2.2.2.length + 1 := by
  unfold tcq9
  repeat' split
  all_goals first | exact Nat.le_succ _ | (rw [List.length_append]; exact Nat.le_refl _)
theorem tsq_len : ∀ (l : List cm9) (c : Nat) (s : sl9), (tsq9 ev stp sg nb l c s).2.2.2.length ≤ s.2.2.2.length + l.length
  | [], _, _ => Nat.le_refl _
  | cm :: l, c, s => by
    by_cases h : s.1.1 ≠ 0
    · rw [tsq_f h]; exact Nat.le_add_right _ _
    · have e : tsq9 ev stp sg nb (cm :: l) c s = tsq9 ev stp sg nb l (c + 1) (tcq9 ev stp sg nb c cm s) := if_neg h
      rw [e]
      have a := tsq_len l (c + 1) (tcq9 ev stp sg nb c cm s)
      have b := tcq_len (ev := ev) (stp := stp) (sg := sg) (nb := nb) (c := c) (cm := cm) (s := s)
      show _ ≤ s.2.2.2.length + (l.length + 1)
      omega
theorem ssq_len {S : List (List Int)} : (ssq9 ev stp tg cms sg nb S).2.2.2.length ≤ cms.length := by
  by_cases h : (ev sg tg.1 tg.2).1 = 0
  · by_cases h1 : (ev sg tg.1 tg.2).2.1 = 0
    · rw [ssq_n h h1]
      have a : (tsq9 ev stp sg nb cms 0 ((0, 0), S, 0, [])).2.2.2.length ≤ 0 + cms.length := tsq_len cms 0 ((0, 0), S, 0, [])
      rw [Nat.zero_add] at a
      exact a
    · rw [ssq_t h h1]; exact Nat.zero_le _
  · rw [ssq_f h]; exact Nat.zero_le _
theorem exq_len : ∀ (f k : Nat) (S : List (List Int)) (T : xt9), (∀ x, x ∈ T → x.2.length ≤ cms.length) → ∀ x, x ∈ (exq9 ev stp tg cms f k S T).2.2.2 → x.2.length ≤ cms.length
  | 0, k, S, T, h => h
  | f + 1, k, S, T, h => by
    cases e : S[k]? with
    | none => rw [exq_n e]; exact h
    | some sg9 =>
      by_cases h1 : (ssq9 ev stp tg cms sg9 (nbx9 T) S).1.1 = 0
      · rw [exq_s e h1]
        refine exq_len f (k + 1) _ _ (fun x hx => ?_)
        rcases List.mem_append.mp hx with u | u
        · exact h x u
        · rw [List.mem_singleton.mp u]; exact ssq_len
      · rw [exq_f e h1]
        exact fun x hx => absurd hx List.not_mem_nil
theorem xtm_60 (h : ∀ x, x ∈ xtm M g cn → x.2.length ≤ 60) (hx : ∀ j, j < cn → ∃ x y : Nat, mI M (g + 4) j = ((x : Nat) : Int) ∧ mI M (g + 4) (j + 1) = ((y : Nat) : Int) ∧ x ≤ y) : ∀ j, j < cn → mI M (g + 4) (j + 1) ≤ mI M (g + 4) j + 60 := fun j hj => by
  obtain ⟨x, y, e1, e2, xy⟩ := hx j hj
  have m := h (stm M g j) (by rw [xtm_map]; exact List.mem_map.mpr ⟨j, List.mem_range.mpr hj, rfl⟩)
  have m2 : (cml M g (mI M (g + 4) j).toNat ((mI M (g + 4) (j + 1)).toNat - (mI M (g + 4) j).toNat)).length ≤ 60 := m
  rw [cml_map, List.length_map, List.length_range, e1, e2, Int.toNat_natCast, Int.toNat_natCast] at m2
  rw [e1, e2]
  omega
end SXT
