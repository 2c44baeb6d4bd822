section
section
variable {G : mG} {d z r w T A B D N C n p O P K k a a' s L L1 V F d0 c : Nat} {M0 M M' M1 M2 : mM} {H H1 : Nat → Nat} {ns : Nat → Int} {wt : Int}
/-- what reading a rule comes to: 1 its code stands from s to L' -/
def rleQ (M0 : mM) (z r w T A B D N C n p O P K s V F : Nat) (ns : Nat → Int) (d0 : Nat) (a : Nat) (x : Int) (M' : mM) : Prop := RB M' z r w T A B D N C n p O P K ∧ rrF M0 r p O P s M' ∧ (∀ j, mI M' (r + 5) j = 0 ∨ mI M' (r + 5) j = 1) ∧ ((x = 0 ∧ ∃ a' L' : Nat, mI M' r 2 = a' ∧ mI M' p 2 = L' ∧ a' ≤ n ∧ s ≤ L' ∧ L' ≤ a') ∨ (x = 1 ∧ ∃ H' L' a', RG M' r p O P n s V F ns d0 H' L' 0 a' 0 ∧ a ≤ a'))
end
end
