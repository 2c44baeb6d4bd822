/-! The words of a text: pure. c its characters, n how many. -/
def blq (x : Int) : Prop := x = 9 ∨ x = 10 ∨ x = 13 ∨ x = 32
/-- behind blanks and remarks: f characters are left, b within a remark -/
noncomputable def skq (c : Nat → Int) : Nat → Bool → Nat → Nat
  | 0, _, i => i
  | f + 1, b, i => haveI := Classical.propDecidable (c i = 35 ∨ (b = true ∧ c i ≠ 10)); haveI := Classical.propDecidable (blq (c i)); if c i = 35 ∨ (b = true ∧ c i ≠ 10) then skq c f true (i + 1) else if blq (c i) then skq c f false (i + 1) else i
noncomputable def skp (c : Nat → Int) (n i : Nat) : Nat := skq c (n - i) false i
def isDq (x : Int) : Prop := 48 ≤ x ∧ x ≤ 57
def nmq (x : Int) : Prop := isL x ∨ isDq x ∨ x = 95
/-- the first place from i on, within f, where P fails -/
noncomputable def enq (P : Int → Prop) (c : Nat → Int) : Nat → Nat → Nat
  | 0, i => i
  | f + 1, i => haveI := Classical.propDecidable (P (c i)); if P (c i) then enq P c f (i + 1) else i
def lq (c : Nat → Int) (n i : Nat) : Int := if i < n then c i else 0
/-- a sign's kind, by it and the character behind it -/
def sgk (x y : Int) : Int := if x = 46 then (if y = 46 then 16 else 39) else if x = 45 then (if y = 62 then 17 else 25) else if x = 33 then (if y = 61 then 18 else 31) else if x = 60 then (if y = 61 then 19 else 21) else if x = 62 then (if y = 61 then 20 else 22) else if x = 61 then 23 else if x = 43 then 24 else if x = 42 then 26 else if x = 47 then 27 else if x = 37 then 28 else if x = 38 then 29 else if x = 124 then 30 else if x = 63 then 32 else if x = 58 then 33 else if x = 59 then 34 else if x = 44 then 35 else if x = 40 then 36 else if x = 41 then 37 else if x = 39 then 38 else 39
/-- where the word at i ends -/
noncomputable def weq (c : Nat → Int) (n i : Nat) : Nat :=
  haveI := Classical.propDecidable (isL (c i)); haveI := Classical.propDecidable (isDq (c i))
  if isL (c i) then enq nmq c (n - i) i else if isDq (c i) then enq isDq c (n - i) i else if 16 ≤ sgk (c i) (lq c n (i + 1)) ∧ sgk (c i) (lq c n (i + 1)) ≤ 20 then i + 2 else i + 1
/-- its kind; kw tells the kinds of names -/
noncomputable def wkq (kw : Nat → Nat → Int) (c : Nat → Int) (n i : Nat) : Int :=
  haveI := Classical.propDecidable (isL (c i)); haveI := Classical.propDecidable (isDq (c i))
  if isL (c i) then (if 40 < weq c n i - i then 39 else kw i (weq c n i)) else if isDq (c i) then (if 9 < weq c n i - i then 39 else 2) else sgk (c i) (lq c n (i + 1))
/-- where the j-th word begins -/
noncomputable def pwq (c : Nat → Int) (n : Nat) : Nat → Nat
  | 0 => skp c n 0
  | j + 1 => skp c n (weq c n (pwq c n j))
section WQQ
variable {c : Nat → Int} {n i : Nat} {f : Nat} {b : Bool} {P : Int → Prop}
theorem skq_rem (h : c i = 35 ∨ (b = true ∧ c i ≠ 10)) : skq c (f + 1) b i = skq c f true (i + 1) := by rw [skq, if_pos h]
theorem skq_bl (h : ¬ (c i = 35 ∨ (b = true ∧ c i ≠ 10))) (h2 : blq (c i)) : skq c (f + 1) b i = skq c f false (i + 1) := by
  rw [skq, if_neg h, if_pos h2]
theorem skq_end (h : ¬ (c i = 35 ∨ (b = true ∧ c i ≠ 10))) (h2 : ¬ blq (c i)) : skq c (f + 1) b i = i := by
  rw [skq, if_neg h, if_neg h2]
theorem skq_b : ∀ (f : Nat) (b : Bool) (i : Nat), i ≤ skq c f b i ∧ skq c f b i ≤ i + f
  | 0, _, i => ⟨Nat.le_refl _, Nat.le_refl _⟩
  | f + 1, b, i => by
    by_cases h : c i = 35 ∨ (b = true ∧ c i ≠ 10)
    · rw [skq_rem h]
      have := skq_b f true (i + 1)
      omega
    · by_cases h2 : blq (c i)
      · rw [skq_bl h h2]
        have := skq_b f false (i + 1)
        omega
      · rw [skq_end h h2]; omega
theorem skp_b (h : i ≤ n) : i ≤ skp c n i ∧ skp c n i ≤ n := by
  have := skq_b (c := c) (n - i) false i
  unfold skp
  omega
theorem enq_y (h : P (c i)) : enq P c (f + 1) i = enq P c f (i + 1) := by
  rw [enq, if_pos h]
theorem enq_n (h : ¬ P (c i)) : enq P c (f + 1) i = i := by
  rw [enq, if_neg h]
theorem enq_b : ∀ (f i : Nat), i ≤ enq P c f i ∧ enq P c f i ≤ i + f
  | 0, i => ⟨Nat.le_refl _, Nat.le_refl _⟩
  | f + 1, i => by
    by_cases h : P (c i)
    · rw [enq_y h]
      have := enq_b f (i + 1)
      omega
    · rw [enq_n h]; omega
theorem weq_b (h : i < n) : i < weq c n i ∧ weq c n i ≤ n := by
  unfold weq
  obtain ⟨m, hm⟩ : ∃ m, n - i = m + 1 := ⟨n - i - 1, by omega⟩
  by_cases h1 : isL (c i)
  · rw [if_pos h1, hm, enq_y (Or.inl h1)]
    have := enq_b (P := nmq) (c := c) m (i + 1)
    omega
  · rw [if_neg h1]
    by_cases h2 : isDq (c i)
    · rw [if_pos h2, hm, enq_y h2]
      have := enq_b (P := isDq) (c := c) m (i + 1)
      omega
    · rw [if_neg h2]
      split
      · rename_i q
        have hn : i + 1 < n := by
          refine Classical.byContradiction (fun z => ?_)
          have e : lq c n (i + 1) = 0 := if_neg z
          rw [e] at q
          unfold sgk at q
          (repeat' split at q) <;> omega
        omega
      · omega
end WQQ
