/-! The class's reader: takeOperator, exactly. -/
/-- the class's number of a word -/
def csq (x : Int) : Int := if x = 0 then 0 else if x = 39 then 1 else x + 1
/-- the words, as they stand in memory -/
def WQ (u : Ru) (M : mM) (A B n : Nat) : Prop := ∀ j, j ≤ n → (0 ≤ ruW u j ∧ ruW u j ≤ 39) ∧ mI M A j = csq (ruW u j) ∧ mI M B j = uP u j
/-- how strong the operand counts while operations are grouped before the word o -/
def FL (u : Ru) (M : mM) (r a : Nat) (o : Int) (c c' : Nat) : Prop := (∀ y, hrs u M r y → c ≤ y) ∧ (0 < lvl o → c' < lwx (ruW u a) ∧ c ≤ lsq o) ∧ (lvl o ≤ 0 → c ≤ 5 ∧ c' ≤ 5)
/-- what a step comes to -/
def rtV (u : Ru) (r p O P s b : Nat) (x : Int) (M' : mM) : Prop := ∃ a' : Nat, mI M' r 2 = a' ∧ ((x = 2 ∧ Rf (ruW u) (uS u) (uK u) a') ∨ (x = 0 ∧ b < a' ∧ RWx u M' r p O P s a') ∨ (x = 1 ∧ ∃ c c' L' : Nat, mI M' p 2 = L' ∧ c ≤ 6 ∧ mI M' r 12 = 0 ∧ RW0 u M' r O P s c c' L' a' ∧ (lwx (ruW u a') ≤ c' ∨ uQ u < lwx (ruW u a'))))
/-- the numbers of an operation: level, strengths -/
theorem op_nums {o : Int} (h : (19 ≤ o ∧ o ≤ 31) ∨ o = 41) : (lvl o = 6 ∧ rsq o = 0 ∧ cst o = 1 ∧ pst o = 0) ∨ (lvl o = 5 ∧ rsq o = 1 ∧ cst o = 2 ∧ pst o = 1) ∨ (lvl o = 4 ∧ rsq o = 2 ∧ cst o = 3 ∧ pst o = 3) ∨ (lvl o = 3 ∧ rsq o = 3 ∧ cst o = 3 ∧ pst o = 3) ∨ (lvl o = 2 ∧ rsq o = 3 ∧ cst o = 4 ∧ pst o = 3) ∨ (lvl o = 1 ∧ rsq o = 4 ∧ cst o = 5 ∧ pst o = 4) := by
  have e : o = 19 ∨ o = 20 ∨ o = 21 ∨ o = 22 ∨ o = 23 ∨ o = 24 ∨ o = 25 ∨ o = 26 ∨ o = 27 ∨ o = 28 ∨ o = 29 ∨ o = 30 ∨ o = 31 ∨ o = 41 := by omega
  rcases e with e | e | e | e | e | e | e | e | e | e | e | e | e | e <;> subst e <;> decide
/-- the numbers of a word -/
theorem wd_nums {x : Int} (h0 : 0 ≤ x) (h1 : x ≤ 39) : (lvl (csq x) = 6 ∧ tgh (csq x) = 6 ∧ lwx x = 1 ∧ lsq (csq x) = 1) ∨ (lvl (csq x) = 5 ∧ tgh (csq x) = 5 ∧ lwx x = 2 ∧ lsq (csq x) = 2) ∨ (lvl (csq x) = 4 ∧ tgh (csq x) = 5 ∧ lwx x = 3 ∧ lsq (csq x) = 2) ∨ (lvl (csq x) = 2 ∧ tgh (csq x) = 2 ∧ lwx x = 4 ∧ lsq (csq x) = 4) ∨ (lvl (csq x) = 1 ∧ tgh (csq x) = 1 ∧ lwx x = 5 ∧ lsq (csq x) = 5) ∨ (lvl (csq x) = 0 ∧ tgh (csq x) = 1 ∧ lwx x = 0 ∧ x ≠ 32) ∨ (lvl (csq x) = 0 ∧ tgh (csq x) = 1 ∧ lwx x = 6 ∧ x = 32) := by
  have e : x = 0 ∨ x = 1 ∨ x = 2 ∨ x = 3 ∨ x = 4 ∨ x = 5 ∨ x = 6 ∨ x = 7 ∨ x = 8 ∨ x = 9 ∨ x = 10 ∨ x = 11 ∨ x = 12 ∨ x = 13 ∨ x = 14 ∨ x = 15 ∨ x = 16 ∨ x = 17 ∨ x = 18 ∨ x = 19 ∨ x = 20 ∨ x = 21 ∨ x = 22 ∨ x = 23 ∨ x = 24 ∨ x = 25 ∨ x = 26 ∨ x = 27 ∨ x = 28 ∨ x = 29 ∨ x = 30 ∨ x = 31 ∨ x = 32 ∨ x = 33 ∨ x = 34 ∨ x = 35 ∨ x = 36 ∨ x = 37 ∨ x = 38 ∨ x = 39 := by omega
  rcases e with e | e | e | e | e | e | e | e | e | e | e | e | e | e | e | e | e | e | e | e | e | e | e | e | e | e | e | e | e | e | e | e | e | e | e | e | e | e | e | e <;> subst e <;> decide
theorem csq_eq {x y : Int} (h0 : 0 ≤ x) (h1 : x ≤ 39) (hy : 2 ≤ y) (hy2 : y ≤ 39) : csq x = y ↔ x = y - 1 := by
  unfold csq
  (repeat' split) <;> omega
section RXA
variable {G : mG} {d z r w T A B D N C n p O P K k a s L V F d0 c c' : Nat} {M0 M M' M1 M2 : mM} {H H' : Nat → Nat} {ns : Nat → Int} {wt o : Int} {u : Ru}
/-- below a sign that has been grouped -/
theorem RW0.below (v : RW0 u M r O P s c c' L a) (hk : mI M r 12 = (k : Int) + 1) (ho : mI M (r + 1) k = o) (h12 : mI M' r 12 = k) (h1 : mI M' (r + 1) = mI M (r + 1)) : (∀ y, hrs u M' r y → cst o ≤ y) ∧ (1 ≤ cst o → ∀ j : Nat, mI M' r 12 = (j : Int) + 1 → mI M' (r + 1) j ≠ 40) := by
  obtain ⟨m, x, t, od, mq, kn, ft, e, q1, q2, q3⟩ := v.cases hk ho
  have wo := q1.wo
  have hc : cst o ≤ rsl (uQ u) (ops t) := wo.2.1
  cases t with
  | nil =>
    have e : k = 0 := e.symm
    refine ⟨fun y hy => ?_, fun _ j hj => by omega⟩
    rcases hy with ⟨-, hy⟩ | ⟨j, hj, -⟩
    · have : cst o ≤ uQ u := hc
      omega
    · omega
  | cons g t =>
    have e : t.length + 1 = k := e
    have hc : cst o ≤ rsq g.1 := hc
    have hop : mI M (r + 1) t.length = g.1 := by
      have := q1.1.1.2.1
      rw [List.length_map] at this
      exact this
    refine ⟨fun y hy => ?_, fun h1' j hj => ?_⟩
    · rcases hy with ⟨hy, -⟩ | ⟨j, hj, hy⟩
      · omega
      · have : j = t.length := by omega
        rw [this, h1, hop] at hy
        omega
    · have : j = t.length := by omega
      rw [this, h1, hop]
      intro q
      rw [q] at hc
      have : rsq 40 = 0 := by decide
      omega
/-- a sign, '?' -/
theorem rtv_1 {x : Int} {L9 b : Nat} (hb : b ≤ a) (hx : x = 0) (h7 : mI M' r 7 = 1) (h2 : mI M' r 2 = ((a + 1 : Nat) : Int)) (hp : mI M' p 2 = L9) (v : RW1 u M' r O P s L9 (a + 1)) : rtV u r p O P s b x M' :=
  ⟨a + 1, h2, Or.inr (Or.inl ⟨hx, Nat.lt_succ_of_le hb, fun L' hL' => ⟨fun q => absurd q (by rw [h7]; decide), fun _ => by
    have : L' = L9 := by rw [hp] at hL'; exact (Int.ofNat_inj.mp hL').symm
    rw [this]; exact v⟩⟩)⟩
end RXA
