/-! The solver: one row is cleared of a column. -/
abbrev cR (s m : Nat) : Nat → Prop := fun x => s + 12868 ≤ x ∧ x < s + 12868 + 205 * m ∧ (x - (s + 12868)) % 205 < 5 * m + 5
abbrev cS (s m : Nat) : Nat → Prop := fun x => (s + 2 ≤ x ∧ x ≤ s + 21) ∨ (s + 47 ≤ x ∧ x ≤ s + 51) ∨ (s + 57 ≤ x ∧ x ≤ s + 61) ∨ cR s m x
theorem fv_abs {M : mM} {f r : Nat} (hF : Fq M f r) (h1 : fv M f ≤ 1) (h2 : -1 ≤ fv M f) : sn M f ≤ sd M f ∧ - sd M f ≤ sn M f := by
  have p : 0 < sd M f := hF.2.2.2.2
  have pr : (0 : Rat) ≤ (sd M f : Rat) := Rat.le_of_lt (Rat.intCast_pos.2 p)
  have e := fv_sd hF
  have a1 : 0 ≤ (1 - fv M f) * (sd M f : Rat) := Rat.mul_nonneg (by grind) pr
  have a2 : 0 ≤ (1 + fv M f) * (sd M f : Rat) := Rat.mul_nonneg (by grind) pr
  exact ⟨ic_le (by grind), ic_le (by rw [Rat.intCast_neg]; grind)⟩
theorem abs_mul1 {x y : Rat} (h1 : x ≤ 1) (h2 : -1 ≤ x) (h3 : y ≤ 1) (h4 : -1 ≤ y) : x * y ≤ 1 ∧ -1 ≤ x * y := by
  have a := Rat.mul_nonneg (a := 1 - x) (b := 1 + y) (by grind) (by grind)
  have b := Rat.mul_nonneg (a := 1 + x) (b := 1 - y) (by grind) (by grind)
  have c := Rat.mul_nonneg (a := 1 - x) (b := 1 - y) (by grind) (by grind)
  have d := Rat.mul_nonneg (a := 1 + x) (b := 1 + y) (by grind) (by grind)
  constructor <;> grind
theorem Wk.out {S : Nat → Prop} {M M' : mM} {s : Nat} (h : Wk M s) (k : FI S M M') (hz : Sz M' (s + 1)) (hs : ∀ x, S x → x < s + 42 ∨ s + 66 < x) : Wk M' s :=
  ⟨hz, h.2.1.out k (fun x q => by have := hs x q; omega), h.2.2.1.out k (fun x q => by have := hs x q; omega), h.2.2.2.1.out k (fun x q => by have := hs x q; omega), h.2.2.2.2.1.out k (fun x q => by have := hs x q; omega), h.2.2.2.2.2.out k (fun x q => by have := hs x q; omega)⟩
theorem Sz.far {S : Nat → Prop} {M M' : mM} {u : Nat} (h : Sz M u) (k : FI S M M') (hs : ∀ x, S x → x < u ∨ u + 20 < x) : Sz M' u :=
  ⟨h.1.fi k, h.2.1.fi k, h.2.2.1.fi k, fun e he => (h.wh e he).out k (fun q => by
    have h1 : ∀ e ∈ szL, 1 ≤ e ∧ e ≤ 20 := by decide
    have h2 := h1 e he
    have := hs _ q
    omega)⟩
section VS
variable {G : mG} {d s m : Nat} {M : mM} {A : Nat → Nat → Rat}
/-- a product of two small ones takes at most 112 parts -/
theorem mul_size {M M' : mM} {u a b : Nat} (hA : Fq M a 56) (hB : Fq M b 56) (h : suQ M u (sn M a * sn M b) (sd M a * sd M b) M') (x1 : fv M a ≤ 1) (x2 : -1 ≤ fv M a) (y1 : fv M b ≤ 1) (y2 : -1 ≤ fv M b) : mI M' (u + 1 + 1) 1 ≤ 112 ∧ mI M' (u + 1 + 3) 1 ≤ 112 := by
  have e := fv_mul hA hB h
  have p1 : 0 < sd M a := hA.2.2.2.2
  have p2 : 0 < sd M b := hB.2.2.2.2
  have hF := h.2.2.2.1
  have b1 := abs_mul1 x1 x2 y1 y2
  rw [← e] at b1
  have b2 := fv_abs hF b1.1 b1.2
  have l1 : sd M a < 16777216 ^ 56 := Int.lt_of_lt_of_le hA.2.2.1.lt (pow_mono (by have := hA.2.2.1.1.2.2.2.2.2.2; omega))
  have l2 : sd M b < 16777216 ^ 56 := Int.lt_of_lt_of_le hB.2.2.1.lt (pow_mono (by have := hB.2.2.1.1.2.2.2.2.2.2; omega))
  have l3 : sd M a * sd M b < 16777216 ^ 112 := by
    rw [show (16777216 : Int) ^ 112 = 16777216 ^ 56 * 16777216 ^ 56 from Int.pow_add 16777216 56 56]
    exact mul_lt_B l1 l2 (by omega) (by omega)
  refine fc_size hF h.2.2.2.2.1 (E := sd M a * sd M b) (z := sn M a * sn M b) ?_ (Int.mul_pos p1 p2) l3 b2.1 b2.2
  rw [e, Rat.intCast_mul, Rat.intCast_mul, ← fv_sd hA, ← fv_sd hB]
  grind
end VS
