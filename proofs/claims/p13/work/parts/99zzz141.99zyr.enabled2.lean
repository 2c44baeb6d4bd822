/-! The reference: enabled. -/
section ENB2
variable {G : mG} {d a g T R W C Z n L w k : Nat} {M M2 M3 : mM} {E : Eg9} {tg mul : Int} {B : Nat → Nat}
/-- before the command is put down -/
def eB (M : mM) (a g T R W C Z : Nat) (E : Eg9) (tg : Int) (n L w : Nat) (B : Nat → Nat) (M2 : mM) : Prop := xF M a M2 ∧ GG M2 a g T R W C Z E tg ∧ En M2 a g R W ∧ XD M2 a g n W L w L B ∧ mI M2 (a + 107) = mI M (a + 107) ∧ mI M2 (a + 108) = mI M (a + 108)
end ENB2
