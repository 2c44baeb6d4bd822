/-! A hundred steps of Euclid are enough. -/
def fpq : Nat → Nat × Nat
  | 0 => (1, 1)
  | s + 1 => ((fpq s).2, (fpq s).1 + (fpq s).2)
/-- after s steps nothing is left -/
def dnq : Nat → Nat → Nat → Prop
  | 0, _, b => b = 0
  | s + 1, a, b => b = 0 ∨ dnq s b (a % b)
def euq : Nat → Nat → Nat → Nat
  | 0, a, _ => a
  | s + 1, a, b => if b = 0 then a else euq s b (a % b)
theorem dn_fib : ∀ (s a b : Nat), ¬ dnq s a b → (fpq s).1 ≤ b ∧ (b ≤ a → (fpq s).2 ≤ a)
  | 0, a, b, h => by
    have hb : b ≠ 0 := h
    exact ⟨by show 1 ≤ b; omega, fun q => by show 1 ≤ a; omega⟩
  | s + 1, a, b, h => by
    have hb : b ≠ 0 := fun q => h (Or.inl q)
    have h2 : ¬ dnq s b (a % b) := fun q => h (Or.inr q)
    obtain ⟨i1, i2⟩ := dn_fib s b (a % b) h2
    have hlt := Nat.mod_lt a (Nat.pos_of_ne_zero hb)
    have i3 := i2 (Nat.le_of_lt hlt)
    refine ⟨i3, fun q => ?_⟩
    show (fpq s).1 + (fpq s).2 ≤ a
    have e := Nat.mod_add_div a b
    have p : 1 ≤ a / b := Nat.div_pos q (Nat.pos_of_ne_zero hb)
    have m : b * 1 ≤ b * (a / b) := Nat.mul_le_mul_left b p
    omega
theorem eu_gcd : ∀ (s a b : Nat), dnq s a b → euq s a b = Nat.gcd a b
  | 0, a, b, h => by
    have hb : b = 0 := h
    subst hb
    show a = Nat.gcd a 0
    rw [Nat.gcd_zero_right]
  | s + 1, a, b, h => by
    show (if b = 0 then a else euq s b (a % b)) = Nat.gcd a b
    by_cases y : b = 0
    · rw [if_pos y, y, Nat.gcd_zero_right]
    · rw [if_neg y]
      rcases h with h | h
      · exact absurd h y
      · rw [eu_gcd s b (a % b) h, Nat.gcd_comm a b, Nat.gcd_rec b a, Nat.gcd_comm]
theorem dn_99 {a b : Nat} (hb : b ≤ 9223372036854775807) : dnq 99 a b := by
  refine Classical.byContradiction (fun h => ?_)
  have h1 := (dn_fib 99 a b h).1
  have h2 : (fpq 99).1 = 354224848179261915075 := by decide +kernel
  rw [h2] at h1
  omega
theorem dnu9 : ∀ (s a b : Nat), dnq s a b → dnq (s + 1) a b
  | 0, a, b, h => Or.inl h
  | s + 1, a, b, h => by
    rcases h with h | h
    · exact Or.inl h
    · exact Or.inr (dnu9 s b (a % b) h)
theorem eu_100 {a b : Nat} (hb : b ≤ 9223372036854775807) : euq 100 a b = Nat.gcd a b := eu_gcd 100 a b (dnu9 99 a b (dn_99 hb))
