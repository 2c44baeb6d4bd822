/-! The reference: a variable's next value; a state is found or made. -/
section SET
variable {G : mG} {d a g T R W C Z n : Nat} {M M' M2 : mM} {E : Eg9} {tg : Int}
/-- the next values stand in their ranges -/
def Nxv (M : mM) (a g W : Nat) : Prop := ∀ v : Nat, v < W → mI M (g + 19) v ≤ mI M (a + 21188) v ∧ mI M (a + 21188) v ≤ mI M (g + 20) v
/-- working out, and next values -/
abbrev sxS (a : Nat) : Nat → Prop := fun x => woS a x ∨ x = a + 21188
/-- a next value has been set -/
def seQ (M : mM) (a g T R W C Z : Nat) (E : Eg9) (tg : Int) (M' : mM) : Prop := Mv (fun x => x = a + 99) (sxS a) M a M' ∧ (∀ i, i ≠ 16 → i ≠ 17 → i ≠ 23 → mI M' a i = mI M a i) ∧ GG M' a g T R W C Z E tg ∧ En M' a g R W ∧ (mI M' a 16 = 0 → Nxv M' a g W)
/-- the states' variables stand in their ranges -/
def Vx (M : mM) (a g n W : Nat) : Prop := ∀ k v : Nat, k < n → v < W → mI M (g + 19) v ≤ mI M (a + 105) (12 * k + v) ∧ mI M (a + 105) (12 * k + v) ≤ mI M (g + 20) v
/-- a state has been found or made -/
def soQ (M : mM) (a g n W : Nat) (x : Int) (M' : mM) : Prop := (x = -1 ∧ M' = M) ∨ ∃ n' : Nat, (n' = n ∨ n' = n + 1) ∧ n' ≤ 512 ∧ 0 ≤ x ∧ x < n' ∧ Mv (fun _ => False) (fun y => y = a ∨ y = a + 105) M a M' ∧ mI M' a 29 = (n' : Int) ∧ (∀ i, i ≠ 29 → mI M' a i = mI M a i) ∧ Vx M' a g n' W
end SET
