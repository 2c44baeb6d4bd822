/-! What the words of a text are worth in a state: pure. -/
section EXQ
variable (w pl nq : Nat → Int) (sm : Nat → Nat → Prop) (N : Nat) (sg : Nat → Int)
/-- how many vars there are -/
def vcn : List nm9 → Nat
  | [] => 0
  | e :: r => vcn r + (if e.2.1 = 3 then 1 else 0)
/-- how many consts and formulas -/
def rcn : List nm9 → Nat
  | [] => 0
  | e :: r => rcn r + (if e.2.1 = 3 then 0 else 1)
/-- what a word is worth in the state sg; the names, latest first -/
noncomputable def cvr : List nm9 → Nat → vrs
  | [], k => if w k = 2 then (0, nq k, 1) else if w k = 12 then (0, 1, 1) else (0, 0, 1)
  | e :: r, k => haveI := Classical.propDecidable (sm e.1 k)
    if w k = 1 ∧ sm e.1 k then (if e.2.1 = 1 then e.2.2.2 else if e.2.1 = 3 then (0, sg (vcn r), 1) else vlq w (cvr r) pl 0 0 (e.1 + 2) (nxq w 34 N e.1)) else cvr r k
/-- what a name is worth; r the names before it -/
noncomputable def nvr (e : nm9) (r : List nm9) : vrs := if e.2.1 = 1 then e.2.2.2 else if e.2.1 = 3 then (0, sg (vcn r), 1) else vlq w (cvr w pl nq sm N sg r) pl 0 0 (e.1 + 2) (nxq w 34 N e.1)
end EXQ
section EXR
variable {w pl nq : Nat → Int} {sm : Nat → Nat → Prop} {N : Nat} {sg : Nat → Int}
theorem cvr_pos {e : nm9} {r : List nm9} {k : Nat} (h1 : w k = 1) (h2 : sm e.1 k) : cvr w pl nq sm N sg (e :: r) k = nvr w pl nq sm N sg e r := by
  rw [cvr, if_pos ⟨h1, h2⟩]
  rfl
theorem cvr_neg {e : nm9} {r : List nm9} {k : Nat} (h : ¬ (w k = 1 ∧ sm e.1 k)) : cvr w pl nq sm N sg (e :: r) k = cvr w pl nq sm N sg r k := by
  rw [cvr, if_neg h]
theorem cvr_no {k : Nat} (h : w k ≠ 1) : ∀ l : List nm9, cvr w pl nq sm N sg l k = if w k = 2 then (0, nq k, 1) else if w k = 12 then (0, 1, 1) else (0, 0, 1)
  | [] => rfl
  | e :: r => by rw [cvr_neg (fun u => h u.1), cvr_no h r]
theorem cvr_at {e : nm9} {r : List nm9} {k : Nat} (h1 : w k = 1) (h2 : sm e.1 k) : ∀ l : List nm9, (∀ e', e' ∈ l → ¬ sm e'.1 k) → cvr w pl nq sm N sg (l ++ e :: r) k = nvr w pl nq sm N sg e r
  | [], _ => cvr_pos h1 h2
  | e' :: l, h => by
    show cvr w pl nq sm N sg (e' :: (l ++ e :: r)) k = _
    rw [cvr_neg (fun u => h e' List.mem_cons_self u.2)]
    exact cvr_at h1 h2 l (fun e'' h'' => h e'' (List.mem_cons_of_mem _ h''))
theorem vcn_app (l r : List nm9) : vcn (l ++ r) = vcn l + vcn r := by
  induction l with
  | nil => show vcn r = 0 + vcn r; omega
  | cons e l ih =>
    show vcn (l ++ r) + _ = vcn l + _ + vcn r
    rw [ih]
    omega
theorem rcn_app (l r : List nm9) : rcn (l ++ r) = rcn l + rcn r := by
  induction l with
  | nil => show rcn r = 0 + rcn r; omega
  | cons e l ih =>
    show rcn (l ++ r) + _ = rcn l + _ + rcn r
    rw [ih]
    omega
end EXR
