section
/-- the class's n words -/
def spx (kw : (Nat → Int) → Nat → Nat → Int) (c : Nat → Int) (N : Nat) (M : mM) (A B D n : Nat) : Prop := (∀ i, i < n → pwq c N i < N ∧ wdx kw c N (mI M A i) (mI M B i) (mI M D i) (pwq c N i)) ∧ (∀ i, i + 1 < n → wkq (kw c) c N (pwq c N i) ≠ 39) ∧ ((pwq c N n = N ∧ ∀ i, i < n → wkq (kw c) c N (pwq c N i) ≠ 39) ∨ (1 ≤ n ∧ wkq (kw c) c N (pwq c N (n - 1)) = 39))
/-- k words have been taken, at place j -/
def spI (kw : (Nat → Int) → Nat → Nat → Int) (c : Nat → Int) (N : Nat) (M : mM) (A B D k j : Nat) : Prop := (∀ i, i < k → pwq c N i < N ∧ wdx kw c N (mI M A i) (mI M B i) (mI M D i) (pwq c N i)) ∧ (∀ i, i + 1 < k → wkq (kw c) c N (pwq c N i) ≠ 39) ∧ ((j = pwq c N k ∧ ∀ i, i < k → wkq (kw c) c N (pwq c N i) ≠ 39) ∨ (j = N ∧ 1 ≤ k ∧ wkq (kw c) c N (pwq c N (k - 1)) = 39))
end
