section
/-- the first digits that differ, from above, decide -/
theorem dg_cmp {f g : Nat → Int} {n i : Nat} (hi : i < n) (hf : ∀ j, j < n → 0 ≤ f j ∧ f j < 16777216) (hg : ∀ j, j < n → 0 ≤ g j ∧ g j < 16777216) (he : ∀ j, i < j → j < n → f j = g j) (hl : f i < g i) : dg f n < dg g n := by
  induction n with
  | zero => omega
  | succ n ih =>
    by_cases q : i = n
    · subst q
      have h1 := dg_lt (f := f) i (fun j hj => (hf j (by omega)).2)
      have h2 := dg_nonneg (f := g) i (fun j hj => (hg j (by omega)).1)
      have h3 : (f i + 1) * 16777216 ^ i ≤ g i * 16777216 ^ i := Int.mul_le_mul_of_nonneg_right (by omega) (Int.le_of_lt (B_pos i))
      rw [Int.add_mul] at h3
      rw [dg, dg]
      omega
    · have h1 := ih (by omega) (fun j hj => hf j (by omega)) (fun j hj => hg j (by omega)) (fun j q1 q2 => he j q1 (by omega))
      rw [dg, dg, he n (by omega) (by omega)]
      omega
end
