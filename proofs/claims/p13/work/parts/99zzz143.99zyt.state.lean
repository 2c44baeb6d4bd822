/-! The reference: enabled, and a state. -/
section STA
variable {G : mG} {d a g T R W C Z n L w k : Nat} {M M2 M3 : mM} {E : Eg9} {tg : Int} {B : Nat → Nat}
/-- a state's commands so far -/
def sI (M : mM) (a g T R W C Z : Nat) (E : Eg9) (tg : Int) (n L k : Nat) (B : Nat → Nat) (M2 : mM) : Prop := xF M a M2 ∧ GG M2 a g T R W C Z E tg ∧ En M2 a g R W ∧ (mI M2 a 16 = 0 → (mI M2 (a + 107) k = (L : Int) ∧ (∀ k', k' ≠ k → mI M2 (a + 107) k' = mI M (a + 107) k' ∧ mI M2 (a + 108) k' = mI M (a + 108) k')) ∧ ∃ (n2 L2 w2 : Nat) (B2 : Nat → Nat), n ≤ n2 ∧ L ≤ L2 ∧ mI M2 (a + 108) k = ((L2 - L : Nat) : Int) ∧ (∀ i, i ≤ L → B2 i = B i) ∧ B2 L2 = w2 ∧ XD M2 a g n2 W L2 w2 L2 B2)
end STA
