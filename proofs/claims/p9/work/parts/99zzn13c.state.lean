section
/-! What the words of a text are worth in a state: pure. -/
section EXQ
variable (w pl nq : Nat → Int) (sm : Nat → Nat → Prop) (N : Nat) (sg : Nat → Int)
/-- how many vars there are -/
def vcn : List nm9 → Nat
  | [] => 0
  | e :: r => vcn r + (if e.2.1 = 3 then 1 else 0)
/-- how many consts and formulas -/
def rcn : List nm9 → Nat
  | [] => 0
  | e :: r => rcn r + (if e.2.1 = 3 then 0 else 1)
end EXQ
section EXR
variable {w pl nq : Nat → Int} {sm : Nat → Nat → Prop} {N : Nat} {sg : Nat → Int}
theorem vcn_app (l r : List nm9) : vcn (l ++ r) = vcn l + vcn r := by
  induction l with
  | nil => show vcn r = 0 + vcn r; omega
  | cons e l ih =>
    show vcn (l ++ r) + _ = vcn l + _ + vcn r
    rw [ih]
    omega
theorem rcn_app (l r : List nm9) : rcn (l ++ r) = rcn l + rcn r := by
  induction l with
  | nil => show rcn r = 0 + rcn r; omega
  | cons e l ih =>
    show rcn (l ++ r) + _ = rcn l + _ + rcn r
    rw [ih]
    omega
end EXR
end
section
/-! The exploration: pure. ev tells what a rule is worth in a state, stp what sets make of a state. -/
/-- a branch: its place, its chance's words, its sets -/
abbrev br9 : Type := Int × (Nat × Nat) × List (Nat × Nat × Nat × Nat)
/-- a command: its player (1 max, 2 min), its place, its guard's words, its branches -/
abbrev cm9 : Type := Int × Int × (Nat × Nat) × List br9
/-- a command of a state: which one of the text, the multiple, goals and shares -/
abbrev sc9 : Type := Nat × Int × List (Nat × Int)
section EXS
variable (ev : List Int → Nat → Nat → vrs) (stp : List Int → List (Nat × Nat × Nat × Nat) → (Int × Int) × List Int)
/-- the chances of a command: the first fault, or their values -/
def chq9 (sg : List Int) : List br9 → (Int × Int) × List (Int × Int)
  | [] => ((0, 0), [])
  | b :: r => if (ev sg b.2.1.1 b.2.1.2).1 ≠ 0 then (((ev sg b.2.1.1 b.2.1.2).1, (ev sg b.2.1.1 b.2.1.2).2.1), []) else if (ev sg b.2.1.1 b.2.1.2).2.1 < 0 ∨ (ev sg b.2.1.1 b.2.1.2).2.2 < (ev sg b.2.1.1 b.2.1.2).2.1 then ((11, b.1), []) else ((chq9 sg r).1, (ev sg b.2.1.1 b.2.1.2).2 :: (chq9 sg r).2)
/-- the multiple of all that stands below; 0 if it is too large -/
def muq9 : List (Int × Int) → Int → Int
  | [], m => m
  | c :: r, m => if 1000000000 ≤ m / (Int.gcd m c.2 : Int) * c.2 then 0 else muq9 r (m / (Int.gcd m c.2 : Int) * c.2)
/-- all shares together -/
def smq9 (m : Int) : List (Int × Int) → Int
  | [] => 0
  | c :: r => m / c.2 * c.1 + smq9 m r
/-- a state, known or new; none: there is no room -/
def enq9 (S : List (List Int)) (x : List Int) : Option (Nat × List (List Int)) := match S.findIdx? (fun y => y == x) with
  | some k => some (k, S)
  | none => if S.length = 512 then none else some (S.length, S ++ [x])
/-- a branch joins one with the same goal; none: there is none -/
def jnq9 (to : Nat) (wt : Int) : List (Nat × Int) → Option (List (Nat × Int))
  | [] => none
  | g :: r => if g.1 = to then some ((g.1, g.2 + wt) :: r) else (jnq9 to wt r).map (fun l => g :: l)
/-- the branches of a command are followed: the first fault, the states, goals and shares; pc its place, nb the branches before it -/
def flq9 (sg : List Int) (pc m : Int) (nb : Nat) : List (br9 × (Int × Int)) → List (List Int) → List (Nat × Int) → (Int × Int) × List (List Int) × List (Nat × Int)
  | [], S, B => ((0, 0), S, B)
  | x :: r, S, B => if x.2.1 = 0 then flq9 sg pc m nb r S B else if (stp sg x.1.2.2).1.1 ≠ 0 then ((stp sg x.1.2.2).1, S, B) else match enq9 S (stp sg x.1.2.2).2 with
    | none => ((5, x.1.1), S, B)
    | some q => match jnq9 q.1 (m / x.2.2 * x.2.1) B with
      | some B' => flq9 sg pc m nb r q.2 B'
      | none => if nb + B.length = 4096 then ((5, pc), q.2, B) else flq9 sg pc m nb r q.2 (B ++ [(q.1, m / x.2.2 * x.2.1)])
/-- while a state is looked at: the first fault, the states, its kind, its commands -/
abbrev sl9 : Type := (Int × Int) × List (List Int) × Int × List sc9
/-- how many branches -/
def nbq9 : List sc9 → Nat
  | [] => 0
  | c :: r => c.2.2.length + nbq9 r
/-- command c of the text; nb branches of the states before -/
def tcq9 (sg : List Int) (nb c : Nat) (cm : cm9) (s : sl9) : sl9 :=
  if (ev sg cm.2.2.1.1 cm.2.2.1.2).1 ≠ 0 then (((ev sg cm.2.2.1.1 cm.2.2.1.2).1, (ev sg cm.2.2.1.1 cm.2.2.1.2).2.1), s.2)
  else if (ev sg cm.2.2.1.1 cm.2.2.1.2).2.1 = 0 then s
  else if s.2.2.1 ≠ 0 ∧ s.2.2.1 ≠ cm.1 then ((13, cm.2.1), s.2)
  else if (chq9 ev sg cm.2.2.2).1.1 ≠ 0 then ((chq9 ev sg cm.2.2.2).1, s.2)
  else if muq9 (chq9 ev sg cm.2.2.2).2 1 = 0 then ((6, cm.2.1), s.2)
  else if smq9 (muq9 (chq9 ev sg cm.2.2.2).2 1) (chq9 ev sg cm.2.2.2).2 ≠ muq9 (chq9 ev sg cm.2.2.2).2 1 then ((11, cm.2.1), s.2)
  else ((flq9 stp sg cm.2.1 (muq9 (chq9 ev sg cm.2.2.2).2 1) (nb + nbq9 s.2.2.2) (cm.2.2.2.zip (chq9 ev sg cm.2.2.2).2) s.2.1 []).1, (flq9 stp sg cm.2.1 (muq9 (chq9 ev sg cm.2.2.2).2 1) (nb + nbq9 s.2.2.2) (cm.2.2.2.zip (chq9 ev sg cm.2.2.2).2) s.2.1 []).2.1, cm.1, s.2.2.2 ++ [(c, muq9 (chq9 ev sg cm.2.2.2).2 1, (flq9 stp sg cm.2.1 (muq9 (chq9 ev sg cm.2.2.2).2 1) (nb + nbq9 s.2.2.2) (cm.2.2.2.zip (chq9 ev sg cm.2.2.2).2) s.2.1 []).2.2)])
/-- all commands from the c-th on, up to a fault -/
def tsq9 (sg : List Int) (nb : Nat) : List cm9 → Nat → sl9 → sl9
  | [], _, s => s
  | cm :: r, c, s => if s.1.1 ≠ 0 then s else tsq9 sg nb r (c + 1) (tcq9 ev stp sg nb c cm s)
/-- a state -/
def ssq9 (tg : Nat × Nat) (cms : List cm9) (sg : List Int) (nb : Nat) (S : List (List Int)) : sl9 :=
  if (ev sg tg.1 tg.2).1 ≠ 0 then (((ev sg tg.1 tg.2).1, (ev sg tg.1 tg.2).2.1), S, 0, []) else if (ev sg tg.1 tg.2).2.1 ≠ 0 then ((0, 0), S, 3, []) else tsq9 ev stp sg nb cms 0 ((0, 0), S, 0, [])
/-- what has been explored: kinds and commands, state by state -/
abbrev xt9 : Type := List (Int × List sc9)
def nbx9 : xt9 → Nat
  | [] => 0
  | x :: r => nbq9 x.2 + nbx9 r
/-- from state k on: the fault and its state, the states, kinds and commands -/
def exq9 (tg : Nat × Nat) (cms : List cm9) : Nat → Nat → List (List Int) → xt9 → (Int × Int) × Nat × List (List Int) × xt9
  | 0, k, S, T => ((0, 0), k, S, T)
  | f + 1, k, S, T => match S[k]? with
    | none => ((0, 0), k, S, T)
    | some sg => if (ssq9 ev stp tg cms sg (nbx9 T) S).1.1 ≠ 0 then ((ssq9 ev stp tg cms sg (nbx9 T) S).1, k, [], []) else exq9 tg cms f (k + 1) (ssq9 ev stp tg cms sg (nbx9 T) S).2.1 (T ++ [((ssq9 ev stp tg cms sg (nbx9 T) S).2.2.1, (ssq9 ev stp tg cms sg (nbx9 T) S).2.2.2)])
/-- the whole exploration from the first state on -/
def xpl9 (tg : Nat × Nat) (cms : List cm9) (s0 : List Int) : (Int × Int) × Nat × List (List Int) × xt9 := exq9 ev stp tg cms 513 0 [s0] []
end EXS
end
