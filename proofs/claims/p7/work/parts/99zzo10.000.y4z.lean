theorem bp9 {m p z Be Ab : Nat} (a1 : p + 15 < m ∨ m + 9 < p) (a7 : p + 16 ≤ z) (a8 : Ab = m + 3 ∨ z ≤ Ab) (a9 : Be = m + 4 ∨ z ≤ Be) : Be ≠ p ∧ Be ≠ p + 8 ∧ Be ≠ p + 6 ∧ Be ≠ p + 7 ∧ Ab ≠ p ∧ Ab ≠ p + 8 := by
  refine ⟨?_, ?_, ?_, ?_, ?_, ?_⟩
  · clear a8; omega
  · clear a8; omega
  · clear a8; omega
  · clear a8; omega
  · clear a9; omega
  · clear a9; omega
theorem q21z {q p : Nat} (qp : q + 22 < p ∨ p + 15 < q) : q + 21 ≠ p ∧ q + 21 ≠ p + 8 ∧ q + 21 ≠ p + 6 ∧ q + 21 ≠ p + 7 := by
  refine ⟨?_, ?_, ?_, ?_⟩ <;> omega
theorem pqz {q p i : Nat} (qp : q + 22 < p ∨ p + 15 < q) (hi : i ≤ 15) : p + i < q + 1 ∨ q + 1 + 9 < p + i := by omega
theorem pOz {q O : Nat} (o : O < q ∨ q + 22 < O) : O < q + 1 ∨ q + 1 + 9 < O := by omega
theorem pnz {p O i k : Nat} (o : O < p ∨ O = p + k ∨ p + 15 < O) (hk : k ≤ 2) (hk1 : 1 ≤ k) (hi : i = 0 ∨ 3 ≤ i) (h15 : i ≤ 15) : O ≠ p + i := by omega
theorem pnz0 {p O k : Nat} (o : O < p ∨ O = p + k ∨ p + 15 < O) (hk1 : 1 ≤ k) : O ≠ p := by omega
theorem qnz {q p x i : Nat} (qp : q + 22 < p ∨ p + 15 < q) (h1 : q ≤ x) (h2 : x ≤ q + 22) (h15 : i ≤ 15) : x ≠ p + i := by omega
theorem y4z {b p q O P : Nat} (y : b = p ∨ b = p + 6 ∨ b = p + 7 ∨ b = p + 8) : (q ≤ b ∧ b ≤ q + 10) ∨ b = q + 21 ∨ b = q + 22 ∨ b = p ∨ (p + 3 ≤ b ∧ b ≤ p + 15) ∨ b = O ∨ b = P := by
  rcases y with y | y | y | y
  · exact Or.inr (Or.inr (Or.inr (Or.inl y)))
  · exact Or.inr (Or.inr (Or.inr (Or.inr (Or.inl (by rw [y]; exact ⟨by omega, by omega⟩)))))
  · exact Or.inr (Or.inr (Or.inr (Or.inr (Or.inl (by rw [y]; exact ⟨by omega, by omega⟩)))))
  · exact Or.inr (Or.inr (Or.inr (Or.inr (Or.inl (by rw [y]; exact ⟨by omega, by omega⟩)))))
