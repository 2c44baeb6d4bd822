/-- the reader's state at word a, whatever is wanted -/
def RWx (u : Ru) (M : mM) (r p O P s a : Nat) : Prop := ∀ L' : Nat, mI M p 2 = L' → (mI M r 7 = 0 → RW0 u M r O P s 0 0 L' a) ∧ (mI M r 7 = 1 → RW1 u M r O P s L' a)
/-- a step: refused, or the next state -/
def clV (u : Ru) (r p O P s a : Nat) (x : Int) (M' : mM) : Prop := (x = 2 ∧ Rf (ruW u) (uS u) (uK u) a) ∨ (x = 0 ∧ RWx u M' r p O P s (a + 1))
/-- kept out of arithmetic -/
def Hid (p : Prop) : Prop := p
theorem ho_c {o : Int} (ho : o = 15 ∨ o = 16) : ¬ (19 ≤ o ∧ o ≤ 29) := by omega
theorem ho_k {o : Int} (ho : o = 15 ∨ o = 16) : ¬ (19 ≤ o ∧ o ≤ 31) := by omega
theorem ho_e {o : Int} (ho : o = 15 ∨ o = 16) : ¬ ((19 ≤ o ∧ o ≤ 29) ∨ o = 40 ∨ o = 41) := by omega
theorem ho_j {o : Int} (ho : o = 15 ∨ o = 16) : ¬ jm o := by unfold jm; omega
theorem ho_d {o : Int} (ho : o = 15 ∨ o = 16) : o = 15 ∨ o = 16 ∨ o = 33 ∨ o = 37 ∨ o = 40 ∨ o = 41 ∨ o = 42 := ho.elim (fun e => Or.inl e) (fun e => Or.inr (Or.inl e))
theorem dcan (a b : Nat) : ((a + b : Nat) : Int) = ((a + (b + 1) : Nat) : Int) - 1 := by omega
