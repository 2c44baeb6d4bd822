section
/-- a step of the grammar, and why it fails where it fails -/
def pQx (M : mM) (a : Nat) (st : List Int) (x nx r : Int) (M' : mM) : Prop := pQ M a st x nx r M' ∧ (r = -1 → ex x nx = none ∨ ∃ ys t, ex x nx = some (ys, t) ∧ dlv x ys = 1 ∧ 40 ≤ mI M a 7)
end
