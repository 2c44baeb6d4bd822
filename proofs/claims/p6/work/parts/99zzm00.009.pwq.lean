section
def blq (x : Int) : Prop := x = 9 ∨ x = 10 ∨ x = 13 ∨ x = 32
/-- behind blanks and remarks: f characters are left, b within a remark -/
noncomputable def skq (c : Nat → Int) : Nat → Bool → Nat → Nat
  | 0, _, i => i
  | f + 1, b, i => haveI := Classical.propDecidable (c i = 35 ∨ (b = true ∧ c i ≠ 10)); haveI := Classical.propDecidable (blq (c i)); if c i = 35 ∨ (b = true ∧ c i ≠ 10) then skq c f true (i + 1) else if blq (c i) then skq c f false (i + 1) else i
noncomputable def skp (c : Nat → Int) (n i : Nat) : Nat := skq c (n - i) false i
def isDq (x : Int) : Prop := 48 ≤ x ∧ x ≤ 57
def nmq (x : Int) : Prop := isL x ∨ isDq x ∨ x = 95
/-- the first place from i on, within f, where P fails -/
noncomputable def enq (P : Int → Prop) (c : Nat → Int) : Nat → Nat → Nat
  | 0, i => i
  | f + 1, i => haveI := Classical.propDecidable (P (c i)); if P (c i) then enq P c f (i + 1) else i
def lq (c : Nat → Int) (n i : Nat) : Int := if i < n then c i else 0
/-- a sign's kind, by it and the character behind it -/
def sgk (x y : Int) : Int := if x = 46 then (if y = 46 then 16 else 39) else if x = 45 then (if y = 62 then 17 else 25) else if x = 33 then (if y = 61 then 18 else 31) else if x = 60 then (if y = 61 then 19 else 21) else if x = 62 then (if y = 61 then 20 else 22) else if x = 61 then 23 else if x = 43 then 24 else if x = 42 then 26 else if x = 47 then 27 else if x = 37 then 28 else if x = 38 then 29 else if x = 124 then 30 else if x = 63 then 32 else if x = 58 then 33 else if x = 59 then 34 else if x = 44 then 35 else if x = 40 then 36 else if x = 41 then 37 else if x = 39 then 38 else 39
/-- where the word at i ends -/
noncomputable def weq (c : Nat → Int) (n i : Nat) : Nat :=
  haveI := Classical.propDecidable (isL (c i)); haveI := Classical.propDecidable (isDq (c i))
  if isL (c i) then enq nmq c (n - i) i else if isDq (c i) then enq isDq c (n - i) i else if 16 ≤ sgk (c i) (lq c n (i + 1)) ∧ sgk (c i) (lq c n (i + 1)) ≤ 20 then i + 2 else i + 1
/-- its kind; kw tells the kinds of names -/
noncomputable def wkq (kw : Nat → Nat → Int) (c : Nat → Int) (n i : Nat) : Int :=
  haveI := Classical.propDecidable (isL (c i)); haveI := Classical.propDecidable (isDq (c i))
  if isL (c i) then (if 40 < weq c n i - i then 39 else kw i (weq c n i)) else if isDq (c i) then (if 9 < weq c n i - i then 39 else 2) else sgk (c i) (lq c n (i + 1))
/-- where the j-th word begins -/
noncomputable def pwq (c : Nat → Int) (n : Nat) : Nat → Nat
  | 0 => skp c n 0
  | j + 1 => skp c n (weq c n (pwq c n j))
end
