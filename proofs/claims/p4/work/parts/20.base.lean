/-! WHAT METHODS DO: the base. -/
/-- only ints of cells in S differ -/
def FI (S : Nat → Prop) (M M' : mM) : Prop := mK M' = mK M ∧ mN M' = mN M ∧ mR M' = mR M ∧ mL M' = mL M ∧ mZ M' = mZ M ∧ mS M' = mS M ∧ ∀ x, ¬ S x → mI M' x = mI M x
theorem FI.refl {S : Nat → Prop} {M : mM} : FI S M M := ⟨rfl, rfl, rfl, rfl, rfl, rfl, fun _ _ => rfl⟩
theorem FI.trans {S : Nat → Prop} {M M1 M2 : mM} (h : FI S M M1) (k : FI S M1 M2) : FI S M M2 := by
  obtain ⟨h1, h2, h3, h4, h5, h6, h7⟩ := h
  obtain ⟨k1, k2, k3, k4, k5, k6, k7⟩ := k
  exact ⟨k1.trans h1, k2.trans h2, k3.trans h3, k4.trans h4, k5.trans h5, k6.trans h6, fun x hx => (k7 x hx).trans (h7 x hx)⟩
theorem FI.mono {S S' : Nat → Prop} {M M1 : mM} (h : FI S M M1) (hs : ∀ x, S x → S' x) : FI S' M M1 := by
  obtain ⟨h1, h2, h3, h4, h5, h6, h7⟩ := h
  exact ⟨h1, h2, h3, h4, h5, h6, fun x hx => h7 x (fun q => hx (hs x q))⟩
theorem FI.ui {S : Nat → Prop} {M : mM} {a j : Nat} {x : Int} (ha : S a) : FI S M (mUI M a j x) := by
  refine ⟨rfl, rfl, rfl, rfl, rfl, rfl, fun b hb => ?_⟩
  funext k
  rw [mI_UI, if_neg]
  rintro ⟨q, -⟩
  subst q
  exact hb ha
/-- numbers in base 2^24 -/
def dg (f : Nat → Int) : Nat → Int
  | 0 => 0
  | n + 1 => dg f n + f n * 16777216 ^ n
theorem dg_congr {f g : Nat → Int} : ∀ (n : Nat), (∀ j, j < n → f j = g j) → dg f n = dg g n
  | 0, _ => rfl
  | n + 1, h => by rw [dg, dg, dg_congr n (fun j hj => h j (by omega)), h n (by omega)]
theorem B_pos (n : Nat) : (0 : Int) < 16777216 ^ n := Int.pow_pos (by decide)
theorem dg_nonneg {f : Nat → Int} : ∀ (n : Nat), (∀ j, j < n → 0 ≤ f j) → 0 ≤ dg f n
  | 0, _ => Int.le_refl _
  | n + 1, h => by
    have h1 := dg_nonneg n (fun j hj => h j (by omega))
    have h2 := Int.mul_nonneg (h n (by omega)) (Int.le_of_lt (B_pos n))
    rw [dg]
    omega
theorem dg_lt {f : Nat → Int} : ∀ (n : Nat), (∀ j, j < n → f j < 16777216) → dg f n < 16777216 ^ n
  | 0, _ => by show (0 : Int) < 1; decide
  | n + 1, h => by
    have h1 := dg_lt n (fun j hj => h j (by omega))
    have h2 := B_pos n
    have h3 : f n * 16777216 ^ n ≤ 16777215 * 16777216 ^ n := Int.mul_le_mul_of_nonneg_right (by have := h n (by omega); omega) (Int.le_of_lt h2)
    rw [dg, Int.pow_succ]
    omega
def Wh (M : mM) (a r : Nat) : Prop := mK M a = 20 ∧ mR M a 0 = a + 1 ∧ mK M (a + 1) = 30 ∧ mN M (a + 1) = r ∧ r < 100000 ∧ 0 ≤ mI M a 1 ∧ mI M a 1 ≤ r
def WD (M : mM) (a : Nat) : Prop := ∀ j : Nat, (j : Int) < mI M a 1 → 0 ≤ mI M (a + 1) j ∧ mI M (a + 1) j < 16777216
def WT (M : mM) (a : Nat) : Prop := 0 < mI M a 1 → mI M (a + 1) (mI M a 1 - 1).toNat ≠ 0
def wv (M : mM) (a : Nat) : Int := dg (mI M (a + 1)) (mI M a 1).toNat
section WS
variable {G : mG} {d a b r : Nat} {M : mM}
theorem s_MW_at {i : Int} (hO : mOk M) (hi : i32 i) (h0 : 0 ≤ i) (hW : Wh M a r) : Ci G y_MW_at d [vr a, vi i] M (fun x M' => M' = M ∧ x = if mI M a 1 ≤ i then 0 else mI M (a + 1) i.toNat) := by
  obtain ⟨w1, w2, w3, w4, w5, w6, w7⟩ := hW
  refine k_MW_at hO hi ?_
  rw [w2]
  refine ⟨w1, fun hc => ⟨w3, by omega⟩, fun v hv => ⟨rfl, hv⟩⟩
theorem s_MW_isZero (hO : mOk M) (hW : Wh M a r) : Ci G y_MW_isZero d [vr a] M (fun x M' => M' = M ∧ x = if mI M a 1 = 0 then 1 else 0) := by
  refine k_MW_isZero hO ⟨hW.1, fun v hv => ⟨rfl, hv⟩⟩
theorem s_MW_trim (n : Nat) : ∀ (M : mM), mOk M → Wh M a r → WD M a → mI M a 1 = n → Cv G y_MW_trim d [vr a] M (fun M' => mOk M' ∧ FI (fun x => x = a) M M' ∧ Wh M' a r ∧ WD M' a ∧ WT M' a ∧ wv M' a = wv M a) := by
  intro M hO hW hD hn
  refine k_MW_trim hO ?_
  suffices H : ∀ (n : Nat) (M1 : mM), mOk M1 → Wh M1 a r → WD M1 a → mI M1 a 1 = n → FI (fun x => x = a) M M1 → wv M1 a = wv M a → h_MW_trim_0 G d a M1 (fun M' => mOk M' ∧ FI (fun x => x = a) M M' ∧ Wh M' a r ∧ WD M' a ∧ WT M' a ∧ wv M' a = wv M a) from H n M hO hW hD hn FI.refl rfl
  intro n
  induction n with
  | zero =>
    intro M1 hO hW hD hn hF hv
    obtain ⟨w1, w2, w3, w4, w5, w6, w7⟩ := hW
    refine k_MW_trim_0 hO ?_
    rw [w2]
    refine ⟨w1, fun hc => by omega, fun hc => ⟨hO, hF, ⟨w1, w2, w3, w4, w5, w6, w7⟩, hD, fun q => by omega, hv⟩, fun hc => absurd (Or.inl (by omega)) hc⟩
  | succ n ih =>
    intro M1 hO hW hD hn hF hv
    obtain ⟨w1, w2, w3, w4, w5, w6, w7⟩ := hW
    refine k_MW_trim_0 hO ?_
    rw [w2]
    refine ⟨w1, fun hc => ⟨w3, by omega⟩, fun hc => ?_, fun hc => ?_⟩
    · refine ⟨hO, hF, ⟨w1, w2, w3, w4, w5, w6, w7⟩, hD, fun q => ?_, hv⟩
      rcases hc with hc | hc
      · omega
      · exact hc
    · refine ⟨⟨by omega, by omega⟩, fun M2 e2 => ?_⟩
      have hz : mI M1 (a + 1) (mI M1 a 1 - 1).toNat = 0 := Classical.not_not.mp (fun q => hc (Or.inr q))
      have e1 : mI M2 a 1 = n := by rw [e2, mI_UI, if_pos ⟨rfl, rfl⟩]; omega
      have e3 : ∀ j, mI M2 (a + 1) j = mI M1 (a + 1) j := fun j => by rw [e2, mI_UI, if_neg (by omega)]
      have hO2 : mOk M2 := by rw [e2]; exact mOk_UI hO ⟨by omega, by omega⟩
      have hF2 : FI (fun x => x = a) M1 M2 := by rw [e2]; exact FI.ui rfl
      refine ih M2 hO2 ⟨by rw [hF2.1]; exact w1, by rw [hF2.2.2.1]; exact w2, by rw [hF2.1]; exact w3, by rw [hF2.2.1]; exact w4, w5, by omega, by omega⟩ (fun j hj => by rw [e3]; exact hD j (by omega)) e1 (hF.trans hF2) ?_
      rw [← hv]
      unfold wv
      rw [e1, hn, dg_congr _ (fun j _ => e3 j)]
      show dg _ n = dg _ (n + 1)
      rw [dg, show (n : Nat) = (mI M1 a 1 - 1).toNat by omega, hz]
      omega
end WS
