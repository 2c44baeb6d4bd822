section
/-- an operation is put on the pile -/
def pshE (M : mM) (r k : Nat) (o pl od mq dep kk : Int) (M' : mM) : Prop := (mI M' r 12 = (k : Int) + 1 ∧ mI M' r 5 = dep ∧ mI M' r 3 = mI M r 3 ∧ mI M' r 4 = mI M r 4 ∧ mI M' r 14 = kk) ∧ (∀ i, mI M' (r + 1) i = if i = k then o else mI M (r + 1) i) ∧ (∀ i, mI M' (r + 2) i = if i = k then pl else mI M (r + 2) i) ∧ (∀ i, mI M' (r + 3) i = if i = k then od else mI M (r + 3) i) ∧ (∀ i, mI M' (r + 4) i = if i = k then mq else mI M (r + 4) i) ∧ mI M' (r + 5) = mI M (r + 5)
end
