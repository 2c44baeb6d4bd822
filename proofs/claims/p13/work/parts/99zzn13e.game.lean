/-! What a text's items make of the game: pure. -/
/-- the vars' ranges and inits; the target's rule; the commands -/
abbrev gm9 : Type := List (Int × Int × Int) × Option (Nat × Nat) × List cm9
/-- the words of a text, how many, its names, its game -/
abbrev gW9 : Type := (Nat → Int) × (Nat → Int) × (Nat → Int) × (Nat → Nat → Prop) × Nat × List nm9 × gm9
section GMP
variable (w pl nq : Nat → Int) (sm : Nat → Nat → Prop) (N : Nat)
/-- which var the word k names -/
noncomputable def vix9 (nms : List nm9) (k : Nat) : Nat := vcn (nms.takeWhile (fun e => !@decide (sm e.1 k) (Classical.propDecidable _)))
/-- the sets of a branch, from k on -/
noncomputable def sel9 (nms : List nm9) : Nat → Nat → List (Nat × Nat × Nat × Nat)
  | 0, _ => []
  | f + 1, k => (vix9 sm nms (k + 1), k + 4, cpq w (k + 4) N, k) :: (if w (cpq w (k + 4) N + 1) = 29 then sel9 nms f (cpq w (k + 4) N + 2) else [])
/-- the branches of a command, from the word i on; the item ends at e -/
noncomputable def brs9 (nms : List nm9) (e : Nat) : Nat → Nat → List br9
  | 0, _ => []
  | f + 1, i => if e ≤ i then [] else if w (clq w (i - 1) N + 1) = 10 then (pl i, (i, clq w (i - 1) N), []) :: brs9 nms e f (clq w (i - 1) N + 3)
    else (pl i, (i, clq w (i - 1) N), sel9 w sm N nms N (clq w (i - 1) N + 1)) :: brs9 nms e f ((sef w pl sm N nms N (clq w (i - 1) N + 1) []).2 + 1)
/-- a command -/
noncomputable def cmd9 (nms : List nm9) (k e : Nat) : cm9 := ((if w k = 7 then 1 else 2), pl k, (k + 1, nxq w 17 N (k + 1)), brs9 w pl sm N nms e N (nxq w 17 N (k + 1) + 1))
/-- a var's range and init -/
noncomputable def var9 (nms : List nm9) (k e : Nat) : Int × Int × Int :=
  let rg := nxq w 16 N (k + 3)
  let ini := if w (k + 3) = 5 then k + 4 else nxq w 9 (e - (k + 3)) (k + 3)
  let lo : Int := if w (k + 3) = 5 then 0 else (vlq w (cv9 w nq sm nms) pl 0 0 (k + 3) rg).2.1
  let hi : Int := if w (k + 3) = 5 then 1 else (vlq w (cv9 w nq sm nms) pl 0 0 (rg + 1) ini).2.1
  (lo, hi, if w ini = 9 then (vlq w (cv9 w nq sm nms) pl 0 0 (ini + 1) e).2.1 else lo)
/-- the item at k; nms the names before it -/
noncomputable def igm9 (nms : List nm9) (k : Nat) (g : gm9) : gm9 :=
  if w k = 3 ∨ w k = 6 then g else if w k = 4 then (g.1 ++ [var9 w pl nq sm N nms k (nxq w 34 N k)], g.2) else if w k = 11 then (g.1, some (k + 1, nxq w 34 N k), g.2.2) else (g.1, g.2.1, g.2.2 ++ [cmd9 w pl sm N nms k (nxq w 34 N k)])
/-- all items from k on -/
noncomputable def igs9 (mc : Nat) : Nat → Nat → st9 → gm9 → gm9
  | 0, _, _, g => g
  | f + 1, k, s, g => if s.2.2.1 ≠ 0 then g else if w k = 0 then g else igs9 mc f (nxq w 34 N k + 1) (ite9 w pl nq sm N mc k s) (if (ite9 w pl nq sm N mc k s).2.2.1 ≠ 0 then g else igm9 w pl nq sm N s.1 k g)
end GMP
