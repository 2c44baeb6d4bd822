section
section
variable {c : Nat → Int} {n i : Nat} {f : Nat} {b : Bool} {P : Int → Prop}
theorem skq_rem (h : c i = 35 ∨ (b = true ∧ c i ≠ 10)) : skq c (f + 1) b i = skq c f true (i + 1) := by rw [skq, if_pos h]
theorem skq_bl (h : ¬ (c i = 35 ∨ (b = true ∧ c i ≠ 10))) (h2 : blq (c i)) : skq c (f + 1) b i = skq c f false (i + 1) := by
  rw [skq, if_neg h, if_pos h2]
theorem skq_end (h : ¬ (c i = 35 ∨ (b = true ∧ c i ≠ 10))) (h2 : ¬ blq (c i)) : skq c (f + 1) b i = i := by
  rw [skq, if_neg h, if_neg h2]
theorem skq_b : ∀ (f : Nat) (b : Bool) (i : Nat), i ≤ skq c f b i ∧ skq c f b i ≤ i + f
  | 0, _, i => ⟨Nat.le_refl _, Nat.le_refl _⟩
  | f + 1, b, i => by
    by_cases h : c i = 35 ∨ (b = true ∧ c i ≠ 10)
    · rw [skq_rem h]
      have := skq_b f true (i + 1)
      omega
    · by_cases h2 : blq (c i)
      · rw [skq_bl h h2]
        have := skq_b f false (i + 1)
        omega
      · rw [skq_end h h2]; omega
theorem skp_b (h : i ≤ n) : i ≤ skp c n i ∧ skp c n i ≤ n := by
  have := skq_b (c := c) (n - i) false i
  unfold skp
  omega
theorem enq_y (h : P (c i)) : enq P c (f + 1) i = enq P c f (i + 1) := by
  rw [enq, if_pos h]
theorem enq_n (h : ¬ P (c i)) : enq P c (f + 1) i = i := by
  rw [enq, if_neg h]
theorem enq_b : ∀ (f i : Nat), i ≤ enq P c f i ∧ enq P c f i ≤ i + f
  | 0, i => ⟨Nat.le_refl _, Nat.le_refl _⟩
  | f + 1, i => by
    by_cases h : P (c i)
    · rw [enq_y h]
      have := enq_b f (i + 1)
      omega
    · rw [enq_n h]; omega
theorem weq_b (h : i < n) : i < weq c n i ∧ weq c n i ≤ n := by
  unfold weq
  obtain ⟨m, hm⟩ : ∃ m, n - i = m + 1 := ⟨n - i - 1, by omega⟩
  by_cases h1 : isL (c i)
  · rw [if_pos h1, hm, enq_y (Or.inl h1)]
    have := enq_b (P := nmq) (c := c) m (i + 1)
    omega
  · rw [if_neg h1]
    by_cases h2 : isDq (c i)
    · rw [if_pos h2, hm, enq_y h2]
      have := enq_b (P := isDq) (c := c) m (i + 1)
      omega
    · rw [if_neg h2]
      split
      · rename_i q
        have hn : i + 1 < n := by
          refine Classical.byContradiction (fun z => ?_)
          have e : lq c n (i + 1) = 0 := if_neg z
          rw [e] at q
          unfold sgk at q
          (repeat' split at q) <;> omega
        omega
      · omega
end
end
