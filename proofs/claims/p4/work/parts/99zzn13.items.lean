/-! What a text of items means: pure. w kinds of words, pl places, nq numbers, sm words with the same letters, N how many words. -/
/-- a name: its word, its sort (1 const, 2 formula, 3 var), its kind (1 a truth), a const's value -/
abbrev nm9 : Type := Nat × Nat × Int × vrs
/-- names; how many vars, rules, commands, targets; the first fault -/
abbrev st9 : Type := List nm9 × (Nat × Nat × Nat × Nat) × (Int × Int)
section ITP
variable (w pl nq : Nat → Int) (sm : Nat → Nat → Prop) (N : Nat)
noncomputable def fnd9 (nms : List nm9) (k : Nat) : Option nm9 := nms.find? (fun e => @decide (sm e.1 k) (Classical.propDecidable _))
/-- the kind of the word k as a name; co = 1: consts alone; -1: unknown -/
noncomputable def E9 (nms : List nm9) (co : Int) (k : Nat) : Int := match fnd9 sm nms k with
  | none => -1
  | some e => if co = 1 ∧ e.2.1 ≠ 1 then -1 else e.2.2.1
/-- what the word k is worth -/
noncomputable def cv9 (nms : List nm9) (k : Nat) : vrs := if w k = 1 then (match fnd9 sm nms k with
  | none => (0, 0, 1)
  | some e => e.2.2.2) else if w k = 2 then (0, nq k, 1) else if w k = 12 then (0, 1, 1) else (0, 0, 1)
/-- the fault of a rule that must be a truth (tr = 1) or a number (tr = 0) -/
noncomputable def rf9 (nms : List nm9) (co tr : Int) (i j : Nat) : Int × Int := fst9 (fl w (E9 sm nms co) pl 0 i j) (kft (kdq w (E9 sm nms co) 0 i j = tr) (pl i))
/-- the first x from k on, within f words -/
def nxq (x : Int) : Nat → Nat → Nat
  | 0, k => k
  | f + 1, k => if w k = x then k else nxq x f (k + 1)
/-- the ')' that closes what begins at i -/
def cp1 (i : Nat) : Nat → Nat → Nat
  | 0, m => m
  | f + 1, m => if dp w i m = 0 ∧ w (i + m) = 37 then m else cp1 i f (m + 1)
def cpq (i j : Nat) : Nat := i + cp1 w i (j - i) 0
/-- a const's value, a whole one if it must be one: fault or (0, value) -/
def wh9 (v : vrs) (p : Int) : Int × Int := if v.1 ≠ 0 then (v.1, v.2.1) else if v.2.2 ≠ 1 then (8, p) else (0, 0)
/-- a const or a formula -/
noncomputable def itr (k e : Nat) (s : st9) : st9 :=
  let co : Int := if w k = 3 then 1 else 0
  let f := fl w (E9 sm s.1 co) pl 0 (k + 3) e
  let v : vrs := if w k = 3 then vlq w (cv9 w nq sm s.1) pl 0 0 (k + 3) e else (0, 0, 1)
  if s.2.1.2.1 = 60 then (s.1, s.2.1, (5, pl k))
  else if fnd9 sm s.1 (k + 1) ≠ none then (s.1, s.2.1, (2, pl (k + 1)))
  else if f.1 ≠ 0 then (s.1, s.2.1, f)
  else if v.1 ≠ 0 then (s.1, s.2.1, (v.1, v.2.1))
  else (s.1 ++ [(k + 1, (if w k = 3 then 1 else 2), kdq w (E9 sm s.1 co) 0 (k + 3) e, v)], (s.2.1.1, s.2.1.2.1 + 1, s.2.1.2.2), (0, 0))
/-- a var: the faults of its rules -/
noncomputable def vf9 (nms : List nm9) (k e rg ini : Nat) : Int × Int := fst9 (fst9 (if w (k + 3) = 5 then (0, 0) else fst9 (rf9 w pl sm nms 1 0 (k + 3) rg) (rf9 w pl sm nms 1 0 (rg + 1) ini)) (if w ini = 9 then rf9 w pl sm nms 1 (if w (k + 3) = 5 then 1 else 0) (ini + 1) e else (0, 0))) (0, 0)
/-- a var: the faults of its values -/
noncomputable def vw9 (nms : List nm9) (k e rg ini : Nat) : Int × Int :=
  let lo := vlq w (cv9 w nq sm nms) pl 0 0 (k + 3) rg
  let hi := vlq w (cv9 w nq sm nms) pl 0 0 (rg + 1) ini
  let be := vlq w (cv9 w nq sm nms) pl 0 0 (ini + 1) e
  fst9 (if w (k + 3) = 5 then (0, 0) else fst9 (fst9 (wh9 lo (pl (k + 3))) (wh9 hi (pl (rg + 1)))) (if lo.2.1 ≤ hi.2.1 ∧ hi.2.1 - lo.2.1 < 10000 then (0, 0) else (9, pl (rg + 1))))
    (if w ini = 9 then (if w (k + 3) = 5 then wh9 be (pl (ini + 1)) else fst9 (wh9 be (pl (ini + 1))) (if lo.2.1 ≤ be.2.1 ∧ be.2.1 ≤ hi.2.1 then (0, 0) else (9, pl (ini + 1)))) else (0, 0))
noncomputable def itv (k e : Nat) (s : st9) : st9 :=
  let rg := nxq w 16 N (k + 3)
  let ini := if w (k + 3) = 5 then k + 4 else nxq w 9 (e - (k + 3)) (k + 3)
  if s.2.1.1 = 12 then (s.1, s.2.1, (5, pl k))
  else if fnd9 sm s.1 (k + 1) ≠ none then (s.1, s.2.1, (2, pl (k + 1)))
  else if (vf9 w pl sm s.1 k e rg ini).1 ≠ 0 then (s.1, s.2.1, vf9 w pl sm s.1 k e rg ini)
  else if (vw9 w pl nq sm s.1 k e rg ini).1 ≠ 0 then (s.1, s.2.1, vw9 w pl nq sm s.1 k e rg ini)
  else (s.1 ++ [(k + 1, 3, (if w (k + 3) = 5 then 1 else 0), (0, 0, 1))], (s.2.1.1 + 1, s.2.1.2), (0, 0))
noncomputable def itt (k e : Nat) (s : st9) : st9 :=
  let f := rf9 w pl sm s.1 0 1 (k + 1) e
  if s.2.1.2.2.2 ≠ 0 then (s.1, s.2.1, (4, pl k))
  else if f.1 ≠ 0 then (s.1, s.2.1, f)
  else (s.1, (s.2.1.1, s.2.1.2.1, s.2.1.2.2.1, 1), (0, 0))
/-- the sets of a branch, from k on: the first fault, and where they end -/
noncomputable def sef (nms : List nm9) : Nat → Nat → List Nat → (Int × Int) × Nat
  | 0, k, _ => ((0, 0), k)
  | f + 1, k, seen => match fnd9 sm nms (k + 1) with
    | none => ((2, pl (k + 1)), k)
    | some e => if e.2.1 ≠ 3 then ((2, pl (k + 1)), k) else if e.1 ∈ seen then ((4, pl (k + 1)), k)
      else if (rf9 w pl sm nms 0 e.2.2.1 (k + 4) (cpq w (k + 4) N)).1 ≠ 0 then (rf9 w pl sm nms 0 e.2.2.1 (k + 4) (cpq w (k + 4) N), k)
      else if w (cpq w (k + 4) N + 1) = 29 then sef nms f (cpq w (k + 4) N + 2) (e.1 :: seen) else ((0, 0), cpq w (k + 4) N + 1)
/-- the branches of a command, from the word i on; b have been read; the item ends at e -/
noncomputable def brf (nms : List nm9) (e : Nat) : Nat → Nat → Nat → Int × Int
  | 0, _, _ => (0, 0)
  | f + 1, i, b => if e ≤ i then (0, 0) else if b = 8 then (5, pl i)
    else if (rf9 w pl sm nms 0 0 i (clq w (i - 1) N)).1 ≠ 0 then rf9 w pl sm nms 0 0 i (clq w (i - 1) N)
    else if w (clq w (i - 1) N + 1) = 10 then brf nms e f (clq w (i - 1) N + 3) (b + 1)
    else if (sef w pl sm N nms N (clq w (i - 1) N + 1) []).1.1 ≠ 0 then (sef w pl sm N nms N (clq w (i - 1) N + 1) []).1
    else brf nms e f ((sef w pl sm N nms N (clq w (i - 1) N + 1) []).2 + 1) (b + 1)
/-- a command; mc how many there may be -/
noncomputable def itc (mc k e : Nat) (s : st9) : st9 :=
  let ar := nxq w 17 N (k + 1)
  let f := fst9 (rf9 w pl sm s.1 0 1 (k + 1) ar) (brf w pl sm N s.1 e N (ar + 1) 0)
  if s.2.1.2.2.1 = mc then (s.1, s.2.1, (5, pl k))
  else if f.1 ≠ 0 then (s.1, s.2.1, f)
  else (s.1, (s.2.1.1, s.2.1.2.1, s.2.1.2.2.1 + 1, s.2.1.2.2.2), (0, 0))
/-- the item at k -/
noncomputable def ite9 (mc k : Nat) (s : st9) : st9 :=
  let e := nxq w 34 N k
  if w k = 3 ∨ w k = 6 then itr w pl nq sm k e s else if w k = 4 then itv w pl nq sm N k e s else if w k = 11 then itt w pl sm k e s else itc w pl sm N mc k e s
/-- all items from k on -/
noncomputable def its9 (mc : Nat) : Nat → Nat → st9 → st9
  | 0, _, s => s
  | f + 1, k, s => if s.2.2.1 ≠ 0 then s else if w k = 0 then (if s.2.1.2.2.2 = 0 then (s.1, s.2.1, (10, pl k)) else s) else its9 mc f (nxq w 34 N k + 1) (ite9 w pl nq sm N mc k s)
end ITP
section ITQ
variable {w pl nq : Nat → Int} {sm : Nat → Nat → Prop} {N : Nat}
theorem nxq_at {x : Int} : ∀ {f k e : Nat}, k ≤ e → e ≤ k + f → w e = x → (∀ j, k ≤ j → j < e → w j ≠ x) → nxq w x f k = e
  | 0, k, e, h1, h2, _, _ => by show k = e; omega
  | f + 1, k, e, h1, h2, h3, h4 => by
    unfold nxq
    by_cases c : k = e
    · subst c
      rw [if_pos h3]
    · rw [if_neg (h4 k (Nat.le_refl _) (by omega))]
      exact nxq_at (by omega) (by omega) h3 (fun j a b => h4 j (by omega) b)
theorem nxq_no {x : Int} : ∀ {f k : Nat}, (∀ j, k ≤ j → j < k + f → w j ≠ x) → nxq w x f k = k + f
  | 0, k, _ => rfl
  | f + 1, k, h => by
    unfold nxq
    rw [if_neg (h k (Nat.le_refl _) (by omega)), nxq_no (fun j a b => h j (by omega) (by omega))]
    omega
theorem cp1_at {i l : Nat} (b : Bl w i l) (h : w (i + l) = 37) : ∀ f m, m ≤ l → l ≤ m + f → cp1 w i f m = l
  | 0, m, h1, h2 => by show m = l; omega
  | f + 1, m, h1, h2 => by
    unfold cp1
    by_cases e : m = l
    · rw [if_pos ⟨by rw [e]; exact b.1, by rw [e]; exact h⟩]; exact e
    · rw [if_neg]
      · exact cp1_at b h f (m + 1) (by omega) (by omega)
      · intro ⟨q1, q2⟩
        have := (b.2.2.1 (m + 1) (by omega)).1
        rw [dp_s, q1, if_neg (by omega), if_pos q2] at this
        omega
theorem cpq_at {i j N : Nat} (he : Eo w 6 i j) (h : w j = 37) (hj : j < N) : cpq w i N = j := by
  have p := he.pr
  have := p.1
  unfold cpq
  rw [cp1_at (l := j - i) p.2.2.2.2.1 (by rw [show i + (j - i) = j by omega]; exact h) _ _ (by omega) (by omega)]
  omega
end ITQ
