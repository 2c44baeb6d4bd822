section
/-- what reading a rule hangs on: words, kinds of names, places, orders of words; the rule's first word and the fault before it; the pile below, the rule's strength; where the machine began -/
abbrev Ru : Type := (Nat → Int) × (Nat → Int) × (Nat → Int) × (Nat → Int × Int) × (Nat × (Int × Int)) × (List Int × Nat) × (List Int × Nat)
def ruW (u : Ru) : Nat → Int := u.1
def uE (u : Ru) : Nat → Int := u.2.1
def uP (u : Ru) : Nat → Int := u.2.2.1
def uC (u : Ru) : Nat → Int × Int := u.2.2.2.1
def ruI (u : Ru) : Nat := u.2.2.2.2.1.1
def uF (u : Ru) : Int × Int := u.2.2.2.2.1.2
def uZ (u : Ru) : List Int := u.2.2.2.2.2.1.1
def uQ (u : Ru) : Nat := u.2.2.2.2.2.1.2
def uS (u : Ru) : List Int := u.2.2.2.2.2.2.1
def uK (u : Ru) : Nat := u.2.2.2.2.2.2.2
/-- the operations' numbers -/
def ops (gs : List gqq) : List Int := gs.map (fun g => g.1)
/-- the fault that is noted -/
def FT (M : mM) (r : Nat) (ft : Int × Int) : Prop := mI M r 3 = ft.1 ∧ (ft.1 ≠ 0 → mI M r 4 = ft.2)
/-- a fault is noted, if there was none -/
def Fqq (M : mM) (r : Nat) (v : Int × Int) (M' : mM) : Prop := ∀ ft, FT M r ft → FT M' r (fst9 ft v)
/-- the piles -/
def RWc (u : Ru) (M : mM) (r : Nat) (gs : List gqq) (od mq kn : List Int) (ft : Int × Int) : Prop :=
  (Ls (mI M (r + 1)) (ops gs) ∧ Ls (mI M (r + 2)) (gs.map (fun g => uP u g.2.1)) ∧ Ls (mI M (r + 3)) od ∧ Ls (mI M (r + 4)) mq ∧ Ls (mI M (r + 5)) kn) ∧ (mI M r 12 = gs.length ∧ mI M r 14 = kn.length) ∧ (od.length = gs.length ∧ mq.length = gs.length) ∧ FT M r ft ∧ ((5 ≤ uQ u ∧ uQ u ≤ 6) ∧ woq (uQ u) (ops gs)) ∧ mI M r 5 = slv (uZ u) + lvs (ops gs)
/-- an operand is wanted at word a -/
def RW1 (u : Ru) (M : mM) (r O P s L a : Nat) : Prop := ∃ gs od mq kn ft, RWc u M r gs od mq kn ft ∧ GSq (ruW u) (uE u) (uP u) (mI M O) (mI M P) (uC u) (ruI u) s (uF u) gs od mq kn ft L ∧ xs9 (ruI u) gs = a ∧ Rc (ruW u) (uS u) (uK u) (gyW (uZ u) (uQ u) (ops gs)) a
/-- an operand has been read up to word a -/
def RW0 (u : Ru) (M : mM) (r O P s c c' L a : Nat) : Prop := ∃ gs od mq kn ft, RWc u M r gs od mq kn ft ∧ OPq (ruW u) (uE u) (uP u) (mI M O) (mI M P) (uC u) (ruI u) s (uF u) c gs od mq kn ft L a ∧ Rc (ruW u) (uS u) (uK u) (gyR (uZ u) (uQ u) c' (ops gs)) a
end
