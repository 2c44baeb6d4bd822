section
/-- only ints of cells in S differ -/
def FI (S : Nat → Prop) (M M' : mM) : Prop := mK M' = mK M ∧ mN M' = mN M ∧ mR M' = mR M ∧ mL M' = mL M ∧ mZ M' = mZ M ∧ mS M' = mS M ∧ ∀ x, ¬ S x → mI M' x = mI M x
theorem FI.refl {S : Nat → Prop} {M : mM} : FI S M M := ⟨rfl, rfl, rfl, rfl, rfl, rfl, fun _ _ => rfl⟩
theorem FI.trans {S : Nat → Prop} {M M1 M2 : mM} (h : FI S M M1) (k : FI S M1 M2) : FI S M M2 := by
  obtain ⟨h1, h2, h3, h4, h5, h6, h7⟩ := h
  obtain ⟨k1, k2, k3, k4, k5, k6, k7⟩ := k
  exact ⟨k1.trans h1, k2.trans h2, k3.trans h3, k4.trans h4, k5.trans h5, k6.trans h6, fun x hx => (k7 x hx).trans (h7 x hx)⟩
theorem FI.mono {S S' : Nat → Prop} {M M1 : mM} (h : FI S M M1) (hs : ∀ x, S x → S' x) : FI S' M M1 := by
  obtain ⟨h1, h2, h3, h4, h5, h6, h7⟩ := h
  exact ⟨h1, h2, h3, h4, h5, h6, fun x hx => h7 x (fun q => hx (hs x q))⟩
theorem FI.ui {S : Nat → Prop} {M : mM} {a j : Nat} {x : Int} (ha : S a) : FI S M (mUI M a j x) := by
  refine ⟨rfl, rfl, rfl, rfl, rfl, rfl, fun b hb => ?_⟩
  funext k
  rw [mI_UI, if_neg]
  rintro ⟨q, -⟩
  subst q
  exact hb ha
/-- numbers in base 2^24 -/
def dg (f : Nat → Int) : Nat → Int
  | 0 => 0
  | n + 1 => dg f n + f n * 16777216 ^ n
theorem dg_congr {f g : Nat → Int} : ∀ (n : Nat), (∀ j, j < n → f j = g j) → dg f n = dg g n
  | 0, _ => rfl
  | n + 1, h => by rw [dg, dg, dg_congr n (fun j hj => h j (by omega)), h n (by omega)]
theorem B_pos (n : Nat) : (0 : Int) < 16777216 ^ n := Int.pow_pos (by decide)
theorem dg_nonneg {f : Nat → Int} : ∀ (n : Nat), (∀ j, j < n → 0 ≤ f j) → 0 ≤ dg f n
  | 0, _ => Int.le_refl _
  | n + 1, h => by
    have h1 := dg_nonneg n (fun j hj => h j (by omega))
    have h2 := Int.mul_nonneg (h n (by omega)) (Int.le_of_lt (B_pos n))
    rw [dg]
    omega
theorem dg_lt {f : Nat → Int} : ∀ (n : Nat), (∀ j, j < n → f j < 16777216) → dg f n < 16777216 ^ n
  | 0, _ => by show (0 : Int) < 1; decide
  | n + 1, h => by
    have h1 := dg_lt n (fun j hj => h j (by omega))
    have h2 := B_pos n
    have h3 : f n * 16777216 ^ n ≤ 16777215 * 16777216 ^ n := Int.mul_le_mul_of_nonneg_right (by have := h n (by omega); omega) (Int.le_of_lt h2)
    rw [dg, Int.pow_succ]
    omega
def Wh (M : mM) (a r : Nat) : Prop := mK M a = 20 ∧ mR M a 0 = a + 1 ∧ mK M (a + 1) = 30 ∧ mN M (a + 1) = r ∧ r < 100000 ∧ 0 ≤ mI M a 1 ∧ mI M a 1 ≤ r
def WD (M : mM) (a : Nat) : Prop := ∀ j : Nat, (j : Int) < mI M a 1 → 0 ≤ mI M (a + 1) j ∧ mI M (a + 1) j < 16777216
def WT (M : mM) (a : Nat) : Prop := 0 < mI M a 1 → mI M (a + 1) (mI M a 1 - 1).toNat ≠ 0
def wv (M : mM) (a : Nat) : Int := dg (mI M (a + 1)) (mI M a 1).toNat
end
