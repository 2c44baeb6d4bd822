section
/-- what readText tells -/
def rdV (M : mM) (a N : Nat) (v : Int) (M' : mM) : Prop := (v = 0 ∧ ∃ q : Nat, mI M' a 8 = q ∧ ∀ W : Nat → Int, (∀ j, j < N → W j = nt M (a + 5) j) → Rf W [50] 0 q) ∨ (v = 1 ∧ ∀ W : Nat → Int, (∀ j, j < N → W j = nt M (a + 5) j) → Rc W [50] 0 [] N)
end
