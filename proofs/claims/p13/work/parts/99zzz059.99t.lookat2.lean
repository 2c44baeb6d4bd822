/-! The reference: looking at a node, to the end. -/
section LB
variable {G : mG} {d a N g T K n L : Nat} {M M2 : mM}
/-- a sum -/
def su (u : Nat → Int) : Nat → Int
  | 0 => 0
  | j + 1 => su u j + u j
theorem su_b {u : Nat → Int} : ∀ {k : Nat}, (∀ j, j < k → u j = 0 ∨ u j = 1) → 0 ≤ su u k ∧ su u k ≤ k ∧ (su u k = k → ∀ j, j < k → u j = 1) ∧ (su u k = 0 → ∀ j, j < k → u j = 0)
  | 0, _ => ⟨by rw [su]; omega, by rw [su]; omega, fun _ j hj => by omega, fun _ j hj => by omega⟩
  | k + 1, h => by
    obtain ⟨a1, a2, a3, a4⟩ := su_b (k := k) (fun j hj => h j (by omega))
    have := h k (by omega)
    rw [su]
    refine ⟨by omega, by omega, fun e j hj => ?_, fun e j hj => ?_⟩
    · by_cases z : j = k
      · rw [z]; omega
      · exact a3 (by omega) j (by omega)
    · by_cases z : j = k
      · rw [z]; omega
      · exact a4 (by omega) j (by omega)
end LB
