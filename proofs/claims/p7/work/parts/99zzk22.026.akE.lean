section
/-- a second comparison -/
def cmp2 (M : mM) (r k : Nat) (o : Int) : Prop := lvl o = 4 ∧ 0 < k ∧ lvl (mI M (r + 1) (k - 1)) = 4
/-- a sign's step -/
def sgE (M : mM) (r p O P B k L a : Nat) (o x : Int) (M' : mM) : Prop := (x = 2 ∧ cmp2 M r k o) ∨ (x = 0 ∧ ¬ cmp2 M r k o ∧ pshE M r k o (mI M B a) (if o = 30 ∨ o = 31 then (L : Int) else -1) 0 (mI M r 5) (mI M r 14) M' ∧ ((o = 30 ∨ o = 31) → (∀ i, mI M' O i = if i = L then o else mI M O i) ∧ mI M' p 2 = (L : Int) + 1) ∧ (¬ (o = 30 ∨ o = 31) → mI M' O = mI M O ∧ mI M' P = mI M P ∧ mI M' p 2 = L))
/-- the step of a '?' -/
def akE (M : mM) (r p O P B k kk L a : Nat) (x : Int) (M' : mM) : Prop := (x = 2 ∧ ¬ mI M r 5 < 40) ∨ (x = 0 ∧ mI M r 5 < 40 ∧ pshE M r k 33 (mI M B a) L (if mI M (r + 5) kk = 1 then 0 else 1) (mI M r 5 + 1) kk M' ∧ (∀ i, mI M' O i = if i = L then 33 else mI M O i) ∧ mI M' p 2 = (L : Int) + 1)
end
