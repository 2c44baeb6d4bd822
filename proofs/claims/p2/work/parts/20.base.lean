section
/-! WHAT METHODS DO: the base. -/
/-- only ints of cells in S differ -/
def FI (S : Nat → Prop) (M M' : mM) : Prop := mK M' = mK M ∧ mN M' = mN M ∧ mR M' = mR M ∧ mL M' = mL M ∧ mZ M' = mZ M ∧ mS M' = mS M ∧ ∀ x, ¬ S x → mI M' x = mI M x
theorem FI.refl {S : Nat → Prop} {M : mM} : FI S M M := ⟨rfl, rfl, rfl, rfl, rfl, rfl, fun _ _ => rfl⟩
theorem FI.trans {S : Nat → Prop} {M M1 M2 : mM} (h : FI S M M1) (k : FI S M1 M2) : FI S M M2 := by
  obtain ⟨h1, h2, h3, h4, h5, h6, h7⟩ := h
  obtain ⟨k1, k2, k3, k4, k5, k6, k7⟩ := k
  exact ⟨k1.trans h1, k2.trans h2, k3.trans h3, k4.trans h4, k5.trans h5, k6.trans h6, fun x hx => (k7 x hx).trans (h7 x hx)⟩
theorem FI.mono {S S' : Nat → Prop} {M M1 : mM} (h : FI S M M1) (hs : ∀ x, S x → S' x) : FI S' M M1 := by
  obtain ⟨h1, h2, h3, h4, h5, h6, h7⟩ := h
  exact ⟨h1, h2, h3, h4, h5, h6, fun x hx => h7 x (fun q => hx (hs x q))⟩
theorem FI.ui {S : Nat → Prop} {M : mM} {a j : Nat} {x : Int} (ha : S a) : FI S M (mUI M a j x) := by
  refine ⟨rfl, rfl, rfl, rfl, rfl, rfl, fun b hb => ?_⟩
  funext k
  rw [mI_UI, if_neg]
  rintro ⟨q, -⟩
  subst q
  exact hb ha
/-- numbers in base 2^24 -/
def dg (f : Nat → Int) : Nat → Int
  | 0 => 0
  | n + 1 => dg f n + f n * 16777216 ^ n
theorem dg_congr {f g : Nat → Int} : ∀ (n : Nat), (∀ j, j < n → f j = g j) → dg f n = dg g n
  | 0, _ => rfl
  | n + 1, h => by rw [dg, dg, dg_congr n (fun j hj => h j (by omega)), h n (by omega)]
theorem B_pos (n : Nat) : (0 : Int) < 16777216 ^ n := Int.pow_pos (by decide)
theorem dg_nonneg {f : Nat → Int} : ∀ (n : Nat), (∀ j, j < n → 0 ≤ f j) → 0 ≤ dg f n
  | 0, _ => Int.le_refl _
  | n + 1, h => by
    have h1 := dg_nonneg n (fun j hj => h j (by omega))
    have h2 := Int.mul_nonneg (h n (by omega)) (Int.le_of_lt (B_pos n))
    rw [dg]
    omega
theorem dg_lt {f : Nat → Int} : ∀ (n : Nat), (∀ j, j < n → f j < 16777216) → dg f n < 16777216 ^ n
  | 0, _ => by show (0 : Int) < 1; decide
  | n + 1, h => by
    have h1 := dg_lt n (fun j hj => h j (by omega))
    have h2 := B_pos n
    have h3 : f n * 16777216 ^ n ≤ 16777215 * 16777216 ^ n := Int.mul_le_mul_of_nonneg_right (by have := h n (by omega); omega) (Int.le_of_lt h2)
    rw [dg, Int.pow_succ]
    omega
def Wh (M : mM) (a r : Nat) : Prop := mK M a = 20 ∧ mR M a 0 = a + 1 ∧ mK M (a + 1) = 30 ∧ mN M (a + 1) = r ∧ r < 100000 ∧ 0 ≤ mI M a 1 ∧ mI M a 1 ≤ r
def WD (M : mM) (a : Nat) : Prop := ∀ j : Nat, (j : Int) < mI M a 1 → 0 ≤ mI M (a + 1) j ∧ mI M (a + 1) j < 16777216
def WT (M : mM) (a : Nat) : Prop := 0 < mI M a 1 → mI M (a + 1) (mI M a 1 - 1).toNat ≠ 0
def wv (M : mM) (a : Nat) : Int := dg (mI M (a + 1)) (mI M a 1).toNat
section WS
variable {G : mG} {d a b r : Nat} {M : mM}
theorem s_MW_at {i : Int} (hO : mOk M) (hi : i32 i) (h0 : 0 ≤ i) (hW : Wh M a r) : Ci G y_MW_at d [vr a, vi i] M (fun x M' => M' = M ∧ x = if mI M a 1 ≤ i then 0 else mI M (a + 1) i.toNat) := by
  obtain ⟨w1, w2, w3, w4, w5, w6, w7⟩ := hW
  refine k_MW_at hO hi ?_
  rw [w2]
  refine ⟨w1, fun hc => ⟨w3, by omega⟩, fun v hv => ⟨rfl, hv⟩⟩
theorem s_MW_isZero (hO : mOk M) (hW : Wh M a r) : Ci G y_MW_isZero d [vr a] M (fun x M' => M' = M ∧ x = if mI M a 1 = 0 then 1 else 0) := by
  refine k_MW_isZero hO ⟨hW.1, fun v hv => ⟨rfl, hv⟩⟩
theorem s_MW_trim (n : Nat) : ∀ (M : mM), mOk M → Wh M a r → WD M a → mI M a 1 = n → Cv G y_MW_trim d [vr a] M (fun M' => mOk M' ∧ FI (fun x => x = a) M M' ∧ Wh M' a r ∧ WD M' a ∧ WT M' a ∧ wv M' a = wv M a) := by
  intro M hO hW hD hn
  refine k_MW_trim hO ?_
  suffices H : ∀ (n : Nat) (M1 : mM), mOk M1 → Wh M1 a r → WD M1 a → mI M1 a 1 = n → FI (fun x => x = a) M M1 → wv M1 a = wv M a → h_MW_trim_0 G d a M1 (fun M' => mOk M' ∧ FI (fun x => x = a) M M' ∧ Wh M' a r ∧ WD M' a ∧ WT M' a ∧ wv M' a = wv M a) from H n M hO hW hD hn FI.refl rfl
  intro n
  induction n with
  | zero =>
    intro M1 hO hW hD hn hF hv
    obtain ⟨w1, w2, w3, w4, w5, w6, w7⟩ := hW
    refine k_MW_trim_0 hO ?_
    rw [w2]
    refine ⟨w1, fun hc => by omega, fun hc => ⟨hO, hF, ⟨w1, w2, w3, w4, w5, w6, w7⟩, hD, fun q => by omega, hv⟩, fun hc => absurd (Or.inl (by omega)) hc⟩
  | succ n ih =>
    intro M1 hO hW hD hn hF hv
    obtain ⟨w1, w2, w3, w4, w5, w6, w7⟩ := hW
    refine k_MW_trim_0 hO ?_
    rw [w2]
    refine ⟨w1, fun hc => ⟨w3, by omega⟩, fun hc => ?_, fun hc => ?_⟩
    · refine ⟨hO, hF, ⟨w1, w2, w3, w4, w5, w6, w7⟩, hD, fun q => ?_, hv⟩
      rcases hc with hc | hc
      · omega
      · exact hc
    · refine ⟨⟨by omega, by omega⟩, fun M2 e2 => ?_⟩
      have hz : mI M1 (a + 1) (mI M1 a 1 - 1).toNat = 0 := Classical.not_not.mp (fun q => hc (Or.inr q))
      have e1 : mI M2 a 1 = n := by rw [e2, mI_UI, if_pos ⟨rfl, rfl⟩]; omega
      have e3 : ∀ j, mI M2 (a + 1) j = mI M1 (a + 1) j := fun j => by rw [e2, mI_UI, if_neg (by omega)]
      have hO2 : mOk M2 := by rw [e2]; exact mOk_UI hO ⟨by omega, by omega⟩
      have hF2 : FI (fun x => x = a) M1 M2 := by rw [e2]; exact FI.ui rfl
      refine ih M2 hO2 ⟨by rw [hF2.1]; exact w1, by rw [hF2.2.2.1]; exact w2, by rw [hF2.1]; exact w3, by rw [hF2.2.1]; exact w4, w5, by omega, by omega⟩ (fun j hj => by rw [e3]; exact hD j (by omega)) e1 (hF.trans hF2) ?_
      rw [← hv]
      unfold wv
      rw [e1, hn, dg_congr _ (fun j _ => e3 j)]
      show dg _ n = dg _ (n + 1)
      rw [dg, show (n : Nat) = (mI M1 a 1 - 1).toNat by omega, hz]
      omega
end WS
end
section
/-! The reference's whole numbers. -/
def W3 (M : mM) (a r : Nat) : Prop := Wh M a r ∧ WD M a ∧ WT M a
theorem Wh.fi {S : Nat → Prop} {M M' : mM} {a r : Nat} (h : Wh M a r) (f : FI S M M') (h0 : 0 ≤ mI M' a 1) (h1 : mI M' a 1 ≤ r) : Wh M' a r := by
  obtain ⟨w1, w2, w3, w4, w5, w6, w7⟩ := h
  exact ⟨by rw [f.1]; exact w1, by rw [f.2.2.1]; exact w2, by rw [f.1]; exact w3, by rw [f.2.1]; exact w4, w5, h0, h1⟩
theorem W3.out {S : Nat → Prop} {M M' : mM} {a r : Nat} (h : W3 M a r) (f : FI S M M') (h0 : ¬ S a) (h1 : ¬ S (a + 1)) : W3 M' a r ∧ wv M' a = wv M a := by
  obtain ⟨w, wd, wt⟩ := h
  have e0 := f.2.2.2.2.2.2 a h0
  have e1 := f.2.2.2.2.2.2 (a + 1) h1
  refine ⟨⟨w.fi f (by rw [e0]; exact w.2.2.2.2.2.1) (by rw [e0]; exact w.2.2.2.2.2.2), ?_, ?_⟩, ?_⟩
  · intro j hj
    rw [e0] at hj
    rw [e1]
    exact wd j hj
  · intro q
    rw [e0] at q ⊢
    rw [e1]
    exact wt q
  · unfold wv
    rw [e0, e1]
theorem Wh.out {S : Nat → Prop} {M M' : mM} {a r : Nat} (h : Wh M a r) (f : FI S M M') (h0 : ¬ S a) : Wh M' a r := by
  have e0 := f.2.2.2.2.2.2 a h0
  exact h.fi f (by rw [e0]; exact h.2.2.2.2.2.1) (by rw [e0]; exact h.2.2.2.2.2.2)
theorem W3.nonneg {M : mM} {a r : Nat} (h : W3 M a r) : 0 ≤ wv M a := dg_nonneg _ (fun j hj => (h.2.1 j (by have := h.1.2.2.2.2.2.1; omega)).1)
theorem W3.lt {M : mM} {a r : Nat} (h : W3 M a r) : wv M a < 16777216 ^ (mI M a 1).toNat := dg_lt _ (fun j hj => (h.2.1 j (by have := h.1.2.2.2.2.2.1; omega)).2)
theorem W3.ge {M : mM} {a r : Nat} (h : W3 M a r) (hn : 0 < mI M a 1) : 16777216 ^ ((mI M a 1).toNat - 1) ≤ wv M a := by
  have h1 := h.2.2 hn
  have h2 := h.2.1 (mI M a 1 - 1).toNat (by omega)
  obtain ⟨k, hk⟩ : ∃ k, (mI M a 1).toNat = k + 1 := ⟨(mI M a 1).toNat - 1, by omega⟩
  unfold wv
  rw [hk, dg]
  rw [show (mI M a 1 - 1).toNat = k by omega] at h1 h2
  have h3 := dg_nonneg (f := mI M (a + 1)) k (fun j hj => (h.2.1 j (by omega)).1)
  have h4 : 1 * 16777216 ^ k ≤ mI M (a + 1) k * 16777216 ^ k := Int.mul_le_mul_of_nonneg_right (by omega) (Int.le_of_lt (B_pos k))
  rw [show k + 1 - 1 = k by omega]
  omega
theorem pow_mono {m n : Nat} (h : m ≤ n) : (16777216 : Int) ^ m ≤ 16777216 ^ n := by
  obtain ⟨k, rfl⟩ := Nat.le.dest h
  rw [Int.pow_add]
  have h1 := B_pos m
  have h2 := B_pos k
  have : (16777216 : Int) ^ m * 1 ≤ 16777216 ^ m * 16777216 ^ k := Int.mul_le_mul_of_nonneg_left (by omega) (Int.le_of_lt h1)
  omega
/-- as many places as the number needs -/
theorem W3.size {M : mM} {a r k : Nat} (h : W3 M a r) (hv : wv M a < 16777216 ^ k) : mI M a 1 ≤ k := by
  have h0 := h.1.2.2.2.2.2.1
  refine Classical.not_not.mp (fun q => ?_)
  have h1 := h.ge (by omega)
  have h2 := pow_mono (m := k) (n := (mI M a 1).toNat - 1) (by omega)
  omega
theorem W3.zero {M : mM} {a r : Nat} (h : W3 M a r) : mI M a 1 = 0 ↔ wv M a = 0 := by
  have h0 := h.1.2.2.2.2.2.1
  constructor
  · intro q
    unfold wv
    rw [q]
    rfl
  · intro q
    refine Classical.not_not.mp (fun z => ?_)
    have h1 := h.ge (by omega)
    have h2 := B_pos ((mI M a 1).toNat - 1)
    omega
theorem l_and24 {x : Int} (h : 0 ≤ x) (h2 : x < 9223372036854775808) : andL x 16777215 = x % 16777216 := by
  obtain ⟨n, rfl⟩ := Int.eq_ofNat_of_zero_le h
  unfold andL
  have e : Int64.ofInt (n : Int) = lN n := rfl
  have e2 : Int64.ofInt 16777215 = lN (2 ^ 24 - 1) := by decide
  rw [e, e2]
  have hn : n < 2 ^ 63 := by omega
  have : (lN n &&& lN (2 ^ 24 - 1)) = lN (n % 2 ^ 24) := by
    apply Int64.toBitVec_inj.mp
    show BitVec.ofNat 64 n &&& BitVec.ofNat 64 (2 ^ 24 - 1) = BitVec.ofNat 64 (n % 2 ^ 24)
    apply BitVec.eq_of_toNat_eq
    simp only [BitVec.toNat_and, BitVec.toNat_ofNat]
    rw [Nat.mod_eq_of_lt (show n < 2 ^ 64 by omega), Nat.mod_eq_of_lt (show 2 ^ 24 - 1 < 2 ^ 64 by decide), Nat.and_two_pow_sub_one_eq_mod, Nat.mod_eq_of_lt (show n % 2 ^ 24 < 2 ^ 64 by omega)]
  rw [this, pk_lT (by omega)]
  omega
theorem l_shr {x : Int} (k : Nat) (hk : k < 64) (h : i64 x) : shrL x k = x / 2 ^ k := by
  unfold shrL
  have e : ((Int32.ofInt (k : Int)).toInt64 &&& 63) = lN k := by
    have : ∀ k, k < 64 → (((Int32.ofInt ((k : Nat) : Int)).toInt64 &&& 63) = lN k) := by decide
    exact this k hk
  rw [e]
  have e2 : ∀ k, k < 64 → ((lN k).toBitVec.smod 64).toNat = k := by decide
  show ((Int64.ofInt x).toBitVec.sshiftRight ((lN k).toBitVec.smod 64).toNat).toInt = _
  rw [e2 k hk, BitVec.toInt_sshiftRight, show (Int64.ofInt x).toBitVec.toInt = x from i64_toInt h, Int.shiftRight_eq_div_pow]
  norm_cast
section W2
variable {G : mG} {d a b r r2 : Nat} {M : mM}
theorem s_MW_isOne (hO : mOk M) (hW : W3 M a r) : Ci G y_MW_isOne d [vr a] M (fun x M' => M' = M ∧ x = if wv M a = 1 then 1 else 0) := by
  have hsz := hW.size (k := 1)
  obtain ⟨⟨w1, w2, w3, w4, w5, w6, w7⟩, wd, wt⟩ := hW
  refine k_MW_isOne hO ?_
  rw [w2]
  refine ⟨w1, fun hc => ⟨w3, by omega, by omega⟩, fun v hv => ⟨rfl, ?_⟩⟩
  rw [hv]
  by_cases q : mI M a 1 = 1
  · have : wv M a = mI M (a + 1) 0 := by
      unfold wv
      rw [q]
      show dg _ 1 = _
      simp [dg]
    rw [this]
    simp [q]
  · rw [if_neg (fun z => q z.1), if_neg]
    intro z
    have h1 := hsz (by rw [z]; decide)
    have h2 : mI M a 1 = 0 := by omega
    unfold wv at z
    rw [h2] at z
    exact absurd z (by show ¬ (0 : Int) = 1; decide)
theorem s_MW_isOdd (hO : mOk M) (hW : W3 M a r) : Ci G y_MW_isOdd d [vr a] M (fun x M' => M' = M ∧ x = if wv M a % 2 = 1 then 1 else 0) := by
  obtain ⟨⟨w1, w2, w3, w4, w5, w6, w7⟩, wd, wt⟩ := hW
  refine k_MW_isOdd hO ?_
  rw [w2]
  refine ⟨w1, fun hc => ⟨w3, by omega, by omega⟩, fun v hv => ⟨rfl, ?_⟩⟩
  rw [hv]
  by_cases q : mI M a 1 ≤ 0
  · have : wv M a = 0 := by
      unfold wv
      rw [show (mI M a 1).toNat = 0 by omega]
      rfl
    rw [if_pos (Or.inl q), this]
    rfl
  · have hd := wd 0 (by omega)
    have key : ∀ n, 0 < n → dg (mI M (a + 1)) n % 2 = mI M (a + 1) 0 % 2 := by
      intro n
      induction n with
      | zero => omega
      | succ n ih =>
        intro _
        by_cases hn : n = 0
        · subst hn; simp [dg]
        · have h1 := ih (by omega)
          rw [dg]
          obtain ⟨k, rfl⟩ : ∃ k, n = k + 1 := ⟨n - 1, by omega⟩
          rw [Int.pow_succ, show mI M (a + 1) (k + 1) * (16777216 ^ k * 16777216) = 2 * (mI M (a + 1) (k + 1) * 16777216 ^ k * 8388608) by rw [← Int.mul_assoc]; omega]
          omega
    have h1 := key (mI M a 1).toNat (by omega)
    unfold wv
    rw [h1, Int.tmod_eq_emod_of_nonneg hd.1]
    by_cases z : mI M (a + 1) 0 % 2 = 1
    · rw [if_neg (by intro w; rcases w with w | w; exact q w; exact w z), if_pos z]
    · rw [if_pos (Or.inr z), if_neg z]
/-- another one's digits -/
theorem s_MW_copy (hO : mOk M) (hA : Wh M a r) (hB : W3 M b r2) (hne : a ≠ b) (hr : mI M b 1 ≤ r) : Cv G y_MW_copy d [vr a, vr b] M (fun M' => mOk M' ∧ FI (fun x => x = a ∨ x = a + 1) M M' ∧ W3 M' a r ∧ wv M' a = wv M b) := by
  have hB0 := hB
  obtain ⟨⟨v1, v2, v3, v4, v5, v6, v7⟩, vd, vt⟩ := hB
  have hA0 := hA
  obtain ⟨w1, w2, w3, w4, w5, w6, w7⟩ := hA
  have hab : a ≠ b + 1 := fun q => by rw [← q, w1] at v3; omega
  have hba : a + 1 ≠ b := fun q => by rw [q, v1] at w3; omega
  refine k_MW_copy hO ⟨v1, w1, fun M3 e3 => ?_⟩
  have hO3 : mOk M3 := by rw [e3]; exact mOk_UI hO (hO b 1).1
  have hF3 : FI (fun x => x = a ∨ x = a + 1) M M3 := by rw [e3]; exact FI.ui (Or.inl rfl)
  have hn3 : mI M3 a 1 = mI M b 1 := by rw [e3, mI_UI, if_pos ⟨rfl, rfl⟩]
  suffices H : ∀ (k : Nat) (i : Int) (M1 : mM), 0 ≤ i → i ≤ mI M b 1 → mI M b 1 - i = k → mOk M1 → FI (fun x => x = a ∨ x = a + 1) M M1 → mI M1 a 1 = mI M b 1 → (∀ j : Nat, (j : Int) < i → mI M1 (a + 1) j = mI M (b + 1) j) → h_MW_copy_10 G d a b i M1 (fun M' => mOk M' ∧ FI (fun x => x = a ∨ x = a + 1) M M' ∧ W3 M' a r ∧ wv M' a = wv M b) from
    H (mI M b 1).toNat 0 M3 (by omega) (by omega) (by omega) hO3 hF3 hn3 (fun j hj => by omega)
  intro k
  induction k with
  | zero =>
    intro i M1 h0 h1 hk hO1 hF1 hn hj
    have hW1 := hA0.fi hF1 (by omega) (by omega)
    refine k_MW_copy_10 hO1 ⟨by omega, by omega⟩ ?_
    rw [hW1.2.1, hn]
    refine ⟨hW1.1, fun hc => ⟨hO1, hF1, ⟨hW1, fun j q => ?_, fun q => ?_⟩, ?_⟩, fun hc => by omega⟩
    · rw [hn] at q
      rw [hj j (by omega)]
      exact vd j q
    · rw [hn] at q ⊢
      rw [hj _ (by omega)]
      exact vt q
    · unfold wv
      rw [hn]
      exact dg_congr _ (fun j q => hj j (by omega))
  | succ k ih =>
    intro i M1 h0 h1 hk hO1 hF1 hn hj
    have hW1 := hA0.fi hF1 (by omega) (by omega)
    have hB1 := hB0.out hF1 (by omega) (by omega)
    have eb : mI M1 (b + 1) = mI M (b + 1) := hF1.2.2.2.2.2.2 _ (by omega)
    refine k_MW_copy_10 hO1 ⟨by omega, by omega⟩ ?_
    rw [hW1.2.1, hn, hB1.1.1.2.1, hB1.1.1.2.2.2.1, hW1.2.2.2.1]
    refine ⟨hW1.1, fun hc => by omega, fun hc => ⟨hB1.1.1.1, hB1.1.1.2.2.1, by omega, hW1.2.2.1, by omega, fun M2 e2 => ?_⟩⟩
    have hF2 : FI (fun x => x = a ∨ x = a + 1) M1 M2 := by rw [e2]; exact FI.ui (Or.inr rfl)
    refine ih (i + 1) M2 (by omega) (by omega) (by omega) (by rw [e2]; exact mOk_UI hO1 (hO1 _ _).1) (hF1.trans hF2) (by rw [e2, mI_UI, if_neg (by omega)]; exact hn) (fun j q => ?_)
    rw [e2, mI_UI]
    by_cases z : j = i.toNat
    · rw [if_pos ⟨rfl, z⟩, eb, z]
    · rw [if_neg (fun w => z w.2)]
      exact hj j (by omega)
end W2
end
section
/-! The reference's whole numbers: order, sums, products. -/
/-- the first digits that differ, from above, decide -/
theorem dg_cmp {f g : Nat → Int} {n i : Nat} (hi : i < n) (hf : ∀ j, j < n → 0 ≤ f j ∧ f j < 16777216) (hg : ∀ j, j < n → 0 ≤ g j ∧ g j < 16777216) (he : ∀ j, i < j → j < n → f j = g j) (hl : f i < g i) : dg f n < dg g n := by
  induction n with
  | zero => omega
  | succ n ih =>
    by_cases q : i = n
    · subst q
      have h1 := dg_lt (f := f) i (fun j hj => (hf j (by omega)).2)
      have h2 := dg_nonneg (f := g) i (fun j hj => (hg j (by omega)).1)
      have h3 : (f i + 1) * 16777216 ^ i ≤ g i * 16777216 ^ i := Int.mul_le_mul_of_nonneg_right (by omega) (Int.le_of_lt (B_pos i))
      rw [Int.add_mul] at h3
      rw [dg, dg]
      omega
    · have h1 := ih (by omega) (fun j hj => hf j (by omega)) (fun j hj => hg j (by omega)) (fun j q1 q2 => he j q1 (by omega))
      rw [dg, dg, he n (by omega) (by omega)]
      omega
section W4
variable {G : mG} {d a b c r r2 r3 : Nat} {M : mM}
theorem s_MW_compare (hO : mOk M) (hA : W3 M a r) (hB : W3 M b r2) : Ci G y_MW_compare d [vr a, vr b] M (fun x M' => M' = M ∧ x = if wv M a < wv M b then -1 else if wv M a = wv M b then 0 else 1) := by
  have hA0 := hA
  have hB0 := hB
  obtain ⟨⟨w1, w2, w3, w4, w5, w6, w7⟩, wd, wt⟩ := hA
  obtain ⟨⟨v1, v2, v3, v4, v5, v6, v7⟩, vd, vt⟩ := hB
  refine k_MW_compare hO ⟨w1, v1, fun hc => ?_, fun hc v hv => ⟨rfl, ?_⟩⟩
  · suffices H : ∀ (k : Nat) (i : Int), i + 1 = k → i < mI M a 1 → (∀ j : Nat, i < (j : Int) → (j : Int) < mI M a 1 → mI M (a + 1) j = mI M (b + 1) j) → h_MW_compare_35 G d a b i M (fun x M' => M' = M ∧ x = if wv M a < wv M b then -1 else if wv M a = wv M b then 0 else 1) from
      H (mI M a 1).toNat (mI M a 1 - 1) (by omega) (by omega) (fun j q1 q2 => by omega)
    intro k
    induction k with
    | zero =>
      intro i hk hi hj
      refine k_MW_compare_35 hO ⟨by omega, by omega⟩ ?_
      rw [w2, v2]
      refine ⟨fun q => by omega, fun q => ⟨fun z => by omega, fun v hv => ⟨rfl, ?_⟩⟩, fun q => absurd (Or.inl (by omega)) q⟩
      have e : wv M a = wv M b := by
        unfold wv
        rw [hc]
        exact dg_congr _ (fun j q => hj j (by omega) (by omega))
      rw [hv, e, if_neg (by omega), if_neg (by omega), if_pos rfl]
    | succ k ih =>
      intro i hk hi hj
      have hki : i = k := by omega
      refine k_MW_compare_35 hO ⟨by omega, by omega⟩ ?_
      rw [w2, v2, w4, v4]
      refine ⟨fun q => ⟨w1, w3, by omega, v1, v3, by omega⟩, fun q => ⟨fun z => ⟨w1, w3, by omega, v1, v3, by omega⟩, fun v hv => ⟨rfl, ?_⟩⟩, fun q => ?_⟩
      · have hne : mI M (a + 1) i.toNat ≠ mI M (b + 1) i.toNat := by
          rcases q with q | q
          · omega
          · exact q
        rw [hv, if_pos (by omega)]
        have hnat : (mI M b 1).toNat = (mI M a 1).toNat := by rw [hc]
        by_cases z : mI M (b + 1) i.toNat ≤ mI M (a + 1) i.toNat
        · have := dg_cmp (f := mI M (b + 1)) (g := mI M (a + 1)) (n := (mI M a 1).toNat) (i := i.toNat) (by omega) (fun j q => vd j (by omega)) (fun j q => wd j (by omega)) (fun j q1 q2 => (hj j (by omega) (by omega)).symm) (by omega)
          unfold wv
          rw [if_pos z, hnat, if_neg (by omega), if_neg (by omega)]
        · have := dg_cmp (f := mI M (a + 1)) (g := mI M (b + 1)) (n := (mI M a 1).toNat) (i := i.toNat) (by omega) (fun j q => wd j (by omega)) (fun j q => vd j (by omega)) (fun j q1 q2 => hj j (by omega) (by omega)) (by omega)
          unfold wv
          rw [if_neg z, hnat, if_pos (by omega)]
      · have he : mI M (a + 1) i.toNat = mI M (b + 1) i.toNat := Classical.not_not.mp (fun z => q (Or.inr z))
        refine ih (i + -1) (by omega) (by omega) (fun j q1 q2 => ?_)
        by_cases z : (j : Int) = i
        · rw [show j = i.toNat by omega]; exact he
        · exact hj j (by omega) q2
  · rw [hv]
    by_cases z : mI M b 1 ≤ mI M a 1
    · have h1 := hA0.ge (by omega)
      have h2 := hB0.lt
      have h3 := pow_mono (m := (mI M b 1).toNat) (n := (mI M a 1).toNat - 1) (by omega)
      rw [if_pos z, if_neg (by omega), if_neg (by omega)]
    · have h1 := hB0.ge (by omega)
      have h2 := hA0.lt
      have h3 := pow_mono (m := (mI M a 1).toNat) (n := (mI M b 1).toNat - 1) (by omega)
      rw [if_neg z, if_pos (by omega)]
/-- a digit, 0 beyond the number -/
def wg (M : mM) (a : Nat) (i : Nat) : Int := if mI M a 1 ≤ (i : Int) then 0 else mI M (a + 1) i
theorem dg_wg {M : mM} {a n : Nat} (h0 : 0 ≤ mI M a 1) (hn : (mI M a 1).toNat ≤ n) : dg (wg M a) n = wv M a := by
  obtain ⟨k, rfl⟩ := Nat.le.dest hn
  induction k with
  | zero =>
    unfold wv
    exact dg_congr _ (fun j hj => by unfold wg; rw [if_neg (by omega)])
  | succ k ih =>
    show dg (wg M a) ((mI M a 1).toNat + k + 1) = _
    rw [dg, ih (by omega), show wg M a ((mI M a 1).toNat + k) = 0 by unfold wg; rw [if_pos (by omega)]]
    omega
theorem W3.wgb {M : mM} {a r : Nat} (h : W3 M a r) (i : Nat) : 0 ≤ wg M a i ∧ wg M a i < 16777216 := by
  unfold wg
  split
  · omega
  · exact h.2.1 i (by omega)
theorem s_MW_add (hO : mOk M) (hA : W3 M a r) (hB : W3 M b r2) (hne : a ≠ b) (hr : mI M a 1 < r ∧ mI M b 1 < r) : Cv G y_MW_add (d + 1) [vr a, vr b] M (fun M' => mOk M' ∧ FI (fun x => x = a ∨ x = a + 1) M M' ∧ W3 M' a r ∧ wv M' a = wv M a + wv M b) := by
  have hA0 := hA
  have hB0 := hB
  obtain ⟨⟨w1, w2, w3, w4, w5, w6, w7⟩, wd, wt⟩ := hA
  obtain ⟨⟨v1, v2, v3, v4, v5, v6, v7⟩, vd, vt⟩ := hB
  have hab : a ≠ b + 1 := fun q => by rw [← q, w1] at v3; omega
  have hba : a + 1 ≠ b := fun q => by rw [q, v1] at w3; omega
  refine k_MW_add hO ⟨w1, v1, fun n hn => ?_⟩
  have hn1 : mI M a 1 ≤ n ∧ mI M b 1 ≤ n ∧ n < r ∧ (n = mI M a 1 ∨ n = mI M b 1) := by rw [hn]; split <;> omega
  suffices H : ∀ (k : Nat) (i cy : Int) (M1 : mM), 0 ≤ i → n - i = k → 0 ≤ cy → cy ≤ 1 → mOk M1 → FI (fun x => x = a + 1) M M1 → (∀ j : Nat, (j : Int) < i → 0 ≤ mI M1 (a + 1) j ∧ mI M1 (a + 1) j < 16777216) → (∀ j : Nat, i ≤ (j : Int) → mI M1 (a + 1) j = mI M (a + 1) j) → dg (mI M1 (a + 1)) i.toNat + cy * 16777216 ^ i.toNat = dg (wg M a) i.toNat + dg (wg M b) i.toNat → h_MW_add_28 G d a b n cy i M1 (fun M' => mOk M' ∧ FI (fun x => x = a ∨ x = a + 1) M M' ∧ W3 M' a r ∧ wv M' a = wv M a + wv M b) from
    H n.toNat 0 0 M (by omega) (by omega) (by omega) (by omega) hO FI.refl (fun j hj => by omega) (fun j hj => rfl) (by simp [dg])
  intro k
  induction k with
  | zero =>
    intro i cy M1 h0 hk hc0 hc1 hO1 hF1 hd1 he1 hv1
    have hi : i = n := by omega
    have hF1' : FI (fun x => x = a ∨ x = a + 1) M M1 := hF1.mono (fun x q => Or.inr q)
    have hW1 : Wh M1 a r := hA0.1.out hF1 (by omega)
    have ea : mI M1 a = mI M a := hF1.2.2.2.2.2.2 _ (by omega)
    refine k_MW_add_28 hO1 ⟨by omega, by omega⟩ ⟨by omega, by omega⟩ ⟨by omega, by omega⟩ ⟨fun hc => ⟨hW1.1, fun M3 e3 => ⟨fun q => ?_, fun q => ?_⟩⟩, fun hc => by omega⟩
    · -- no carry
      have hcy : cy = 0 := by omega
      have hF3 : FI (fun x => x = a ∨ x = a + 1) M1 M3 := by rw [e3]; exact FI.ui (Or.inl rfl)
      have e1 : mI M3 a 1 = n := by rw [e3, mI_UI, if_pos ⟨rfl, rfl⟩]
      have e2 : ∀ j, mI M3 (a + 1) j = mI M1 (a + 1) j := fun j => by rw [e3, mI_UI, if_neg (by omega)]
      have hval : wv M3 a = wv M a + wv M b := by
        unfold wv
        rw [e1, dg_congr _ (fun j _ => e2 j)]
        rw [hcy, hi, dg_wg w6 (by omega), dg_wg v6 (by omega)] at hv1
        unfold wv at hv1
        omega
      refine ⟨by rw [e3]; exact mOk_UI hO1 ⟨by omega, by omega⟩, hF1'.trans hF3, ⟨hW1.fi hF3 (by omega) (by omega), fun j hj => ?_, fun z => ?_⟩, hval⟩
      · rw [e2]; exact hd1 j (by omega)
      · -- the highest digit
        rw [e1] at z ⊢
        rw [e2]
        intro hz0
        have hlt : wv M3 a < 16777216 ^ (n.toNat - 1) := by
          unfold wv
          obtain ⟨m, hm⟩ : ∃ m, n.toNat = m + 1 := ⟨n.toNat - 1, by omega⟩
          rw [e1, hm, dg, e2 m, show m = (n - 1).toNat by omega, hz0]
          have := dg_lt (f := mI M3 (a + 1)) (n - 1).toNat (fun j hj => by rw [e2]; exact (hd1 j (by omega)).2)
          rw [show (n - 1).toNat + 1 - 1 = (n - 1).toNat by omega]
          omega
        have n1 := hA0.nonneg
        have n2 := hB0.nonneg
        rcases hn1.2.2.2 with q9 | q9
        · have := hA0.ge (by omega)
          rw [← q9] at this
          omega
        · have := hB0.ge (by omega)
          rw [← q9] at this
          omega
    · have hcy : cy = 1 := by omega
      have hF3 : FI (fun x => x = a ∨ x = a + 1) M1 M3 := by rw [e3]; exact FI.ui (Or.inl rfl)
      have e1 : mI M3 a 1 = n := by rw [e3, mI_UI, if_pos ⟨rfl, rfl⟩]
      have e2 : ∀ j, mI M3 (a + 1) j = mI M1 (a + 1) j := fun j => by rw [e3, mI_UI, if_neg (by omega)]
      have hO3 : mOk M3 := by rw [e3]; exact mOk_UI hO1 ⟨by omega, by omega⟩
      have hW3 : Wh M3 a r := hW1.fi hF3 (by omega) (by omega)
      rw [hW3.2.1, hW3.2.2.2.1, e1]
      refine ⟨hW3.2.2.1, by omega, fun M4 e4 => ?_⟩
      have f1 : mI M4 a 1 = n := by rw [e4, mI_UI, if_neg (by omega)]; exact e1
      rw [f1]
      refine ⟨⟨by omega, by omega⟩, fun M5 e5 => ?_⟩
      have hF4 : FI (fun x => x = a ∨ x = a + 1) M3 M4 := by rw [e4]; exact FI.ui (Or.inr rfl)
      have hF5 : FI (fun x => x = a ∨ x = a + 1) M4 M5 := by rw [e5]; exact FI.ui (Or.inl rfl)
      have hF : FI (fun x => x = a ∨ x = a + 1) M1 M5 := (hF3.trans hF4).trans hF5
      have g1 : mI M5 a 1 = n + 1 := by rw [e5, mI_UI, if_pos ⟨rfl, rfl⟩]
      have g2 : ∀ j, mI M5 (a + 1) j = if j = n.toNat then cy else mI M1 (a + 1) j := fun j => by
        rw [e5, mI_UI, if_neg (by omega), e4, mI_UI]
        by_cases z : j = n.toNat
        · rw [if_pos ⟨rfl, z⟩, if_pos z]
        · rw [if_neg (fun w => z w.2), if_neg z, e2]
      have hO4 : mOk M4 := by rw [e4]; exact mOk_UI hO3 ⟨by omega, by omega⟩
      refine ⟨by rw [e5]; exact mOk_UI hO4 ⟨by omega, by omega⟩, hF1'.trans hF, ⟨hW1.fi hF (by omega) (by omega), fun j hj => ?_, fun z => ?_⟩, ?_⟩
      · rw [g2]
        split
        · omega
        · exact hd1 j (by omega)
      · rw [g1, g2, if_pos (by omega)]
        omega
      · unfold wv
        rw [g1, show (n + 1).toNat = n.toNat + 1 by omega, dg, g2, if_pos rfl, dg_congr (g := mI M1 (a + 1)) _ (fun j hj => by rw [g2, if_neg (by omega)])]
        rw [hi, dg_wg w6 (by omega), dg_wg v6 (by omega)] at hv1
        unfold wv at hv1
        omega
  | succ k ih =>
    intro i cy M1 h0 hk hc0 hc1 hO1 hF1 hd1 he1 hv1
    have hW1 : Wh M1 a r := hA0.1.out hF1 (by omega)
    have hB1 := hB0.out hF1 (by omega) (by omega)
    have ea : mI M1 a = mI M a := hF1.2.2.2.2.2.2 _ (by omega)
    have eb : mI M1 b = mI M b := hF1.2.2.2.2.2.2 _ (by omega)
    have eb1 : mI M1 (b + 1) = mI M (b + 1) := hF1.2.2.2.2.2.2 _ (by omega)
    refine k_MW_add_28 hO1 ⟨by omega, by omega⟩ ⟨by omega, by omega⟩ ⟨by omega, by omega⟩ ⟨fun hc => by omega, fun hc => ⟨hW1.1, ?_⟩⟩
    refine (s_MW_at hO1 ⟨by omega, by omega⟩ h0 hW1).mono (fun x M2 hx => ?_)
    obtain ⟨rfl, hx⟩ := hx
    have hx' : x = wg M a i.toNat := by
      rw [hx, ea, he1 _ (by omega)]
      unfold wg
      rw [show ((i.toNat : Nat) : Int) = i by omega]
    have hxb := hA0.wgb i.toNat
    refine ⟨⟨by omega, by omega⟩, hO1, hB1.1.1.1, ?_⟩
    refine (s_MW_at hO1 ⟨by omega, by omega⟩ h0 hB1.1.1).mono (fun z M3 hz => ?_)
    obtain ⟨rfl, hz⟩ := hz
    have hz' : z = wg M b i.toNat := by
      rw [hz, eb, eb1]
      unfold wg
      rw [show ((i.toNat : Nat) : Int) = i by omega]
    have hzb := hB0.wgb i.toNat
    rw [hW1.2.1, hW1.2.2.2.1]
    refine ⟨⟨by omega, by omega⟩, hO1, hW1.1, ⟨by omega, by omega⟩, hW1.2.2.1, by omega, fun M4 e4 => ?_⟩
    have hs0 : 0 ≤ x + z + cy := by omega
    have hm := Int.emod_nonneg (x + z + cy) (show (16777216 : Int) ≠ 0 by decide)
    have hm2 := Int.emod_lt_of_pos (x + z + cy) (show (0 : Int) < 16777216 by decide)
    have hdm := Int.emod_add_mul_ediv (x + z + cy) 16777216
    rw [Int.tmod_eq_emod_of_nonneg hs0] at e4
    rw [Int.tdiv_eq_ediv_of_nonneg hs0]
    have hF4 : FI (fun x => x = a + 1) M3 M4 := by rw [e4]; exact FI.ui rfl
    have g2 : ∀ j, mI M4 (a + 1) j = if j = i.toNat then (x + z + cy) % 16777216 else mI M3 (a + 1) j := fun j => by
      rw [e4, mI_UI]
      by_cases z : j = i.toNat
      · rw [if_pos ⟨rfl, z⟩, if_pos z]
      · rw [if_neg (fun w => z w.2), if_neg z]
    refine ih (i + 1) _ M4 (by omega) (by omega) (by omega) (by omega) (by rw [e4]; exact mOk_UI hO1 ⟨by omega, by omega⟩) (hF1.trans hF4) (fun j hj => ?_) (fun j hj => ?_) ?_
    · rw [g2]
      split
      · omega
      · exact hd1 j (by omega)
    · rw [g2, if_neg (by omega)]
      exact he1 j (by omega)
    · rw [show (i + 1).toNat = i.toNat + 1 by omega, dg, dg, dg, g2, if_pos rfl, dg_congr (g := mI M3 (a + 1)) _ (fun j hj => by rw [g2, if_neg (by omega)]), ← hx', ← hz', Int.pow_succ]
      have e9 : (x + z + cy) * 16777216 ^ i.toNat = ((x + z + cy) % 16777216 + 16777216 * ((x + z + cy) / 16777216)) * 16777216 ^ i.toNat := by rw [hdm]
      rw [Int.add_mul, Int.add_mul, Int.add_mul] at e9
      rw [show (x + z + cy) / 16777216 * (16777216 ^ i.toNat * 16777216) = 16777216 * ((x + z + cy) / 16777216) * 16777216 ^ i.toNat by rw [Int.mul_comm (16777216 ^ i.toNat), ← Int.mul_assoc, Int.mul_comm ((x + z + cy) / 16777216)]]
      omega
end W4
end
section
/-! The reference's whole numbers: differences, products, halves. -/
section W5
variable {G : mG} {d a b c r r2 r3 : Nat} {M : mM}
theorem s_MW_less (hO : mOk M) (hA : W3 M a r) (hB : W3 M b r2) (hne : a ≠ b) (hle : wv M b ≤ wv M a) : Cv G y_MW_less (d + 1) [vr a, vr b] M (fun M' => mOk M' ∧ FI (fun x => x = a ∨ x = a + 1) M M' ∧ W3 M' a r ∧ wv M' a = wv M a - wv M b) := by
  have hA0 := hA
  have hB0 := hB
  have hnb : mI M b 1 ≤ mI M a 1 := by
    have h := hB.size (k := (mI M a 1).toNat) (by have := hA.lt; omega)
    have := hA.1.2.2.2.2.2.1
    omega
  obtain ⟨⟨w1, w2, w3, w4, w5, w6, w7⟩, wd, wt⟩ := hA
  obtain ⟨⟨v1, v2, v3, v4, v5, v6, v7⟩, vd, vt⟩ := hB
  have hab : a ≠ b + 1 := fun q => by rw [← q, w1] at v3; omega
  have hba : a + 1 ≠ b := fun q => by rw [q, v1] at w3; omega
  refine k_MW_less hO ?_
  suffices H : ∀ (k : Nat) (i bw : Int) (M1 : mM), 0 ≤ i → mI M a 1 - i = k → 0 ≤ bw → bw ≤ 1 → mOk M1 → FI (fun x => x = a + 1) M M1 → (∀ j : Nat, (j : Int) < i → 0 ≤ mI M1 (a + 1) j ∧ mI M1 (a + 1) j < 16777216) → (∀ j : Nat, i ≤ (j : Int) → mI M1 (a + 1) j = mI M (a + 1) j) → dg (mI M1 (a + 1)) i.toNat - bw * 16777216 ^ i.toNat = dg (mI M (a + 1)) i.toNat - dg (wg M b) i.toNat → h_MW_less_4 G d a b bw i M1 (fun M' => mOk M' ∧ FI (fun x => x = a ∨ x = a + 1) M M' ∧ W3 M' a r ∧ wv M' a = wv M a - wv M b) from
    H (mI M a 1).toNat 0 0 M (by omega) (by omega) (by omega) (by omega) hO FI.refl (fun j hj => by omega) (fun j hj => rfl) (by simp [dg])
  intro k
  induction k with
  | zero =>
    intro i bw M1 h0 hk hc0 hc1 hO1 hF1 hd1 he1 hv1
    have hW1 : Wh M1 a r := hA0.1.out hF1 (by omega)
    have ea : mI M1 a = mI M a := hF1.2.2.2.2.2.2 _ (by omega)
    refine k_MW_less_4 hO1 ⟨by omega, by omega⟩ ⟨by omega, by omega⟩ ⟨hW1.1, fun hc => ?_, fun hc => by rw [ea] at hc; omega⟩
    have hbw : bw = 0 := by
      have h1 := dg_lt (f := mI M1 (a + 1)) i.toNat (fun j hj => (hd1 j (by omega)).2)
      rw [show i.toNat = (mI M a 1).toNat by omega, dg_wg v6 (by omega)] at hv1
      rw [show i.toNat = (mI M a 1).toNat by omega] at h1
      unfold wv at hv1 hle
      by_cases z : bw = 1
      · rw [z] at hv1; omega
      · omega
    refine (s_MW_trim (mI M1 a 1).toNat M1 hO1 hW1 (fun j hj => hd1 j (by rw [ea] at hj; omega)) (by rw [ea]; omega)).mono (fun M2 h2 => ?_)
    obtain ⟨g1, g2, g3, g4, g5, g6⟩ := h2
    refine ⟨g1, g1, (hF1.mono (fun x q => Or.inr q)).trans (g2.mono (fun x q => Or.inl q)), ⟨g3, g4, g5⟩, ?_⟩
    rw [g6]
    rw [hbw, show i.toNat = (mI M a 1).toNat by omega, dg_wg v6 (by omega)] at hv1
    unfold wv at hv1 ⊢
    rw [ea]
    omega
  | succ k ih =>
    intro i bw M1 h0 hk hc0 hc1 hO1 hF1 hd1 he1 hv1
    have hW1 : Wh M1 a r := hA0.1.out hF1 (by omega)
    have hB1 := hB0.out hF1 (by omega) (by omega)
    have ea : mI M1 a = mI M a := hF1.2.2.2.2.2.2 _ (by omega)
    have eb : mI M1 b = mI M b := hF1.2.2.2.2.2.2 _ (by omega)
    have eb1 : mI M1 (b + 1) = mI M (b + 1) := hF1.2.2.2.2.2.2 _ (by omega)
    refine k_MW_less_4 hO1 ⟨by omega, by omega⟩ ⟨by omega, by omega⟩ ?_
    rw [hW1.2.1, hW1.2.2.2.1, ea]
    refine ⟨hW1.1, fun hc => by omega, fun hc => ⟨hW1.2.2.1, by omega, hB1.1.1.1, ?_⟩⟩
    refine (s_MW_at hO1 ⟨by omega, by omega⟩ h0 hB1.1.1).mono (fun z M3 hz => ?_)
    obtain ⟨rfl, hz⟩ := hz
    have hz' : z = wg M b i.toNat := by
      rw [hz, eb, eb1]
      unfold wg
      rw [show ((i.toNat : Nat) : Int) = i by omega]
    have hzb := hB0.wgb i.toNat
    have hda := wd i.toNat (by omega)
    rw [he1 i.toNat (by omega), hW1.2.1, hW1.2.2.2.1]
    refine ⟨⟨by omega, by omega⟩, hO1, ⟨by omega, by omega⟩, fun v1 e1 => ⟨hW1.1, fun v2 e2 => ?_⟩⟩
    have hv2 : 0 ≤ v2 ∧ v2 < 16777216 ∧ v1 = (if 0 ≤ mI M (a + 1) i.toNat - z - bw then 0 else 1) ∧ v2 = mI M (a + 1) i.toNat - z - bw + v1 * 16777216 ∧ 0 ≤ v1 ∧ v1 ≤ 1 := by
      refine ⟨?_, ?_, e1, ?_, ?_, ?_⟩ <;> rw [e1] at * <;> (try rw [e2]) <;> split <;> omega
    refine ⟨hW1.2.2.1, by omega, ⟨by omega, by omega⟩, fun M4 e4 => ?_⟩
    have hF4 : FI (fun x => x = a + 1) M3 M4 := by rw [e4]; exact FI.ui rfl
    have g2 : ∀ j, mI M4 (a + 1) j = if j = i.toNat then v2 else mI M3 (a + 1) j := fun j => by
      rw [e4, mI_UI]
      by_cases z : j = i.toNat
      · rw [if_pos ⟨rfl, z⟩, if_pos z]
      · rw [if_neg (fun w => z w.2), if_neg z]
    refine ih (i + 1) v1 M4 (by omega) (by omega) (by omega) (by omega) (by rw [e4]; exact mOk_UI hO1 ⟨by omega, by omega⟩) (hF1.trans hF4) (fun j hj => ?_) (fun j hj => ?_) ?_
    · rw [g2]
      split
      · omega
      · exact hd1 j (by omega)
    · rw [g2, if_neg (by omega)]
      exact he1 j (by omega)
    · rw [show (i + 1).toNat = i.toNat + 1 by omega, dg, dg, dg, g2, if_pos rfl, dg_congr (g := mI M3 (a + 1)) _ (fun j hj => by rw [g2, if_neg (by omega)]), ← hz', Int.pow_succ]
      have e9 : v2 * 16777216 ^ i.toNat = (mI M (a + 1) i.toNat - z - bw + v1 * 16777216) * 16777216 ^ i.toNat := by rw [hv2.2.2.2.1]
      rw [Int.add_mul, Int.sub_mul, Int.sub_mul] at e9
      rw [show v1 * (16777216 ^ i.toNat * 16777216) = v1 * 16777216 * 16777216 ^ i.toNat by rw [Int.mul_comm (16777216 ^ i.toNat), ← Int.mul_assoc]]
      omega
theorem s_MW_twice {m : Int} (hm : m = 0 ∨ m = 1) (hO : mOk M) (hA : W3 M a r) (hr : mI M a 1 < r) (hz : 0 < mI M a 1 ∨ m = 1 ∨ True) : Cv G y_MW_twice d [vr a, vi m] M (fun M' => mOk M' ∧ FI (fun x => x = a ∨ x = a + 1) M M' ∧ W3 M' a r ∧ wv M' a = 2 * wv M a + m) := by
  have hA0 := hA
  obtain ⟨⟨w1, w2, w3, w4, w5, w6, w7⟩, wd, wt⟩ := hA
  refine k_MW_twice hO ⟨by omega, by omega⟩ (fun c0 hc0 => ?_)
  have hc0 : c0 = m := by rw [hc0]; split <;> omega
  subst hc0
  suffices H : ∀ (k : Nat) (i cy : Int) (M1 : mM), 0 ≤ i → mI M a 1 - i = k → 0 ≤ cy → cy ≤ 1 → mOk M1 → FI (fun x => x = a + 1) M M1 → (∀ j : Nat, (j : Int) < i → 0 ≤ mI M1 (a + 1) j ∧ mI M1 (a + 1) j < 16777216) → (∀ j : Nat, i ≤ (j : Int) → mI M1 (a + 1) j = mI M (a + 1) j) → dg (mI M1 (a + 1)) i.toNat + cy * 16777216 ^ i.toNat = 2 * dg (mI M (a + 1)) i.toNat + c0 → h_MW_twice_12 G d a cy i M1 (fun M' => mOk M' ∧ FI (fun x => x = a ∨ x = a + 1) M M' ∧ W3 M' a r ∧ wv M' a = 2 * wv M a + c0) from
    H (mI M a 1).toNat 0 c0 M (by omega) (by omega) (by omega) (by omega) hO FI.refl (fun j hj => by omega) (fun j hj => rfl) (by simp [dg])
  intro k
  induction k with
  | zero =>
    intro i cy M1 h0 hk hc0 hc1 hO1 hF1 hd1 he1 hv1
    have hF1' : FI (fun x => x = a ∨ x = a + 1) M M1 := hF1.mono (fun x q => Or.inr q)
    have hW1 : Wh M1 a r := hA0.1.out hF1 (by omega)
    have ea : mI M1 a = mI M a := hF1.2.2.2.2.2.2 _ (by omega)
    have hii : i.toNat = (mI M a 1).toNat := by omega
    rw [hii] at hv1
    refine k_MW_twice_12 hO1 ⟨by omega, by omega⟩ ⟨by omega, by omega⟩ ?_
    rw [hW1.2.1, hW1.2.2.2.1, ea]
    refine ⟨hW1.1, fun hc => ⟨fun q => ?_, fun q => ?_⟩, fun hc => by omega⟩
    · have hcy : cy = 0 := by omega
      rw [hcy] at hv1
      have hval : wv M1 a = 2 * wv M a + c0 := by
        unfold wv
        rw [ea]
        omega
      refine ⟨hO1, hF1', ⟨hW1, fun j hj => hd1 j (by rw [ea] at hj; omega), fun z => ?_⟩, hval⟩
      rw [ea] at z ⊢
      intro hz0
      have hlt : wv M1 a < 16777216 ^ ((mI M a 1).toNat - 1) := by
        unfold wv
        obtain ⟨m9, hm9⟩ : ∃ m9, (mI M a 1).toNat = m9 + 1 := ⟨(mI M a 1).toNat - 1, by omega⟩
        rw [ea, hm9, dg, show m9 = (mI M a 1 - 1).toNat by omega, hz0]
        have := dg_lt (f := mI M1 (a + 1)) (mI M a 1 - 1).toNat (fun j hj => (hd1 j (by omega)).2)
        rw [show (mI M a 1 - 1).toNat + 1 - 1 = (mI M a 1 - 1).toNat by omega]
        omega
      have n1 := hA0.nonneg
      have := hA0.ge (by omega)
      omega
    · have hcy : cy = 1 := by omega
      refine ⟨hW1.2.2.1, by omega, fun M4 e4 => ?_⟩
      have f1 : mI M4 a 1 = mI M a 1 := by rw [e4, mI_UI, if_neg (by omega), ea]
      rw [f1]
      refine ⟨⟨by omega, by omega⟩, fun M5 e5 => ?_⟩
      have hF4 : FI (fun x => x = a ∨ x = a + 1) M1 M4 := by rw [e4]; exact FI.ui (Or.inr rfl)
      have hF5 : FI (fun x => x = a ∨ x = a + 1) M4 M5 := by rw [e5]; exact FI.ui (Or.inl rfl)
      have hF := hF4.trans hF5
      have g1 : mI M5 a 1 = mI M a 1 + 1 := by rw [e5, mI_UI, if_pos ⟨rfl, rfl⟩]
      have g2 : ∀ j, mI M5 (a + 1) j = if j = (mI M a 1).toNat then cy else mI M1 (a + 1) j := fun j => by
        rw [e5, mI_UI, if_neg (by omega), e4, mI_UI]
        by_cases z : j = (mI M a 1).toNat
        · rw [if_pos ⟨rfl, z⟩, if_pos z]
        · rw [if_neg (fun w => z w.2), if_neg z]
      have hO4 : mOk M4 := by rw [e4]; exact mOk_UI hO1 ⟨by omega, by omega⟩
      refine ⟨by rw [e5]; exact mOk_UI hO4 ⟨by omega, by omega⟩, hF1'.trans hF, ⟨hW1.fi hF (by omega) (by omega), fun j hj => ?_, fun z => ?_⟩, ?_⟩
      · rw [g2]
        split
        · omega
        · exact hd1 j (by omega)
      · rw [g1, g2, if_pos (by omega)]
        omega
      · unfold wv
        rw [g1, show (mI M a 1 + 1).toNat = (mI M a 1).toNat + 1 by omega, dg, g2, if_pos rfl, dg_congr (g := mI M1 (a + 1)) _ (fun j hj => by rw [g2, if_neg (by omega)])]
        exact hv1
  | succ k ih =>
    intro i cy M1 h0 hk hc0 hc1 hO1 hF1 hd1 he1 hv1
    have hW1 : Wh M1 a r := hA0.1.out hF1 (by omega)
    have ea : mI M1 a = mI M a := hF1.2.2.2.2.2.2 _ (by omega)
    have hda := wd i.toNat (by omega)
    refine k_MW_twice_12 hO1 ⟨by omega, by omega⟩ ⟨by omega, by omega⟩ ?_
    rw [hW1.2.1, hW1.2.2.2.1, ea, he1 i.toNat (by omega)]
    refine ⟨hW1.1, fun hc => by omega, fun hc => ⟨hW1.2.2.1, by omega, ⟨by omega, by omega⟩, by omega, fun M4 e4 => ?_⟩⟩
    generalize hs : 2 * mI M (a + 1) i.toNat + cy = s at e4 ⊢
    have hs0 : 0 ≤ s := by omega
    rw [Int.tmod_eq_emod_of_nonneg hs0] at e4
    rw [Int.tdiv_eq_ediv_of_nonneg hs0]
    have hdm := Int.emod_add_mul_ediv s 16777216
    have hF4 : FI (fun x => x = a + 1) M1 M4 := by rw [e4]; exact FI.ui rfl
    have g2 : ∀ j, mI M4 (a + 1) j = if j = i.toNat then s % 16777216 else mI M1 (a + 1) j := fun j => by
      rw [e4, mI_UI]
      by_cases z : j = i.toNat
      · rw [if_pos ⟨rfl, z⟩, if_pos z]
      · rw [if_neg (fun w => z w.2), if_neg z]
    refine ih (i + 1) _ M4 (by omega) (by omega) (by omega) (by omega) (by rw [e4]; exact mOk_UI hO1 ⟨by omega, by omega⟩) (hF1.trans hF4) (fun j hj => ?_) (fun j hj => ?_) ?_
    · rw [g2]
      split
      · omega
      · exact hd1 j (by omega)
    · rw [g2, if_neg (by omega)]
      exact he1 j (by omega)
    · rw [show (i + 1).toNat = i.toNat + 1 by omega, dg, dg, g2, if_pos rfl, dg_congr (g := mI M1 (a + 1)) _ (fun j hj => by rw [g2, if_neg (by omega)]), Int.pow_succ]
      have e9 : s * 16777216 ^ i.toNat = (s % 16777216 + 16777216 * (s / 16777216)) * 16777216 ^ i.toNat := by rw [hdm]
      rw [Int.add_mul, ← hs, Int.add_mul, Int.mul_assoc] at e9
      rw [hs] at e9
      rw [show s / 16777216 * (16777216 ^ i.toNat * 16777216) = 16777216 * (s / 16777216) * 16777216 ^ i.toNat by rw [Int.mul_comm (16777216 ^ i.toNat), ← Int.mul_assoc, Int.mul_comm (s / 16777216)]]
      omega
end W5
end
section
/-! The reference's whole numbers: products, halves, bits, tenths, small ones. -/
section W6
variable {G : mG} {d a b c r r2 r3 : Nat} {M : mM}
theorem dg_zero {f : Nat → Int} : ∀ n, (∀ j, j < n → f j = 0) → dg f n = 0
  | 0, _ => rfl
  | n + 1, h => by rw [dg, dg_zero n (fun j hj => h j (by omega)), h n (by omega)]; simp
theorem dg_succ (f : Nat → Int) (n : Nat) : dg f (n + 1) = dg f n + f n * 16777216 ^ n := rfl
theorem dg_split {f : Nat → Int} (n k : Nat) : dg f (n + k) = dg f n + dg (fun j => f (n + j)) k * 16777216 ^ n := by
  induction k with
  | zero => simp [dg]
  | succ k ih =>
    show dg f (n + k + 1) = _
    rw [dg, ih, dg, Int.add_mul, Int.pow_add, Int.mul_assoc (f (n + k)), Int.mul_comm (16777216 ^ k)]
    omega
/-- one more row of a product -/
theorem s_MW_product (hO : mOk M) (hA : Wh M a r) (hB : W3 M b r2) (hC : W3 M c r3) (hab : a ≠ b) (hac : a ≠ c) (hr : mI M b 1 + mI M c 1 ≤ r) : Cv G y_MW_product (d + 1) [vr a, vr b, vr c] M (fun M' => mOk M' ∧ FI (fun x => x = a ∨ x = a + 1) M M' ∧ W3 M' a r ∧ wv M' a = wv M b * wv M c) := by
  have hB0 := hB
  have hC0 := hC
  obtain ⟨⟨u1, u2, u3, u4, u5, u6, u7⟩, ud, ut⟩ := hB
  obtain ⟨⟨v1, v2, v3, v4, v5, v6, v7⟩, vd, vt⟩ := hC
  have hA0 := hA
  obtain ⟨w1, w2, w3, w4, w5, w6, w7⟩ := hA
  have h1 : a ≠ b + 1 := fun q => by rw [← q, w1] at u3; omega
  have h2 : a + 1 ≠ b := fun q => by rw [q, u1] at w3; omega
  have h3 : a ≠ c + 1 := fun q => by rw [← q, w1] at v3; omega
  have h4 : a + 1 ≠ c := fun q => by rw [q, v1] at w3; omega
  generalize hnb : mI M b 1 = nb at *
  generalize hnc : mI M c 1 = nc at *
  refine k_MW_product hO ⟨u1, v1, w1, by rw [hnb, hnc]; exact ⟨by omega, by omega⟩, fun M0 e0 => ?_⟩
  rw [hnb, hnc] at e0
  have hO0 : mOk M0 := by rw [e0]; exact mOk_UI hO ⟨by omega, by omega⟩
  have hF0 : FI (fun x => x = a ∨ x = a + 1) M M0 := by rw [e0]; exact FI.ui (Or.inl rfl)
  have hn0 : mI M0 a 1 = nb + nc := by rw [e0, mI_UI, if_pos ⟨rfl, rfl⟩]
  -- the facts that stay
  have stay : ∀ M1, FI (fun x => x = a ∨ x = a + 1) M M1 → mI M1 b 1 = nb ∧ mI M1 c 1 = nc ∧ mI M1 (b + 1) = mI M (b + 1) ∧ mI M1 (c + 1) = mI M (c + 1) ∧ mK M1 b = 20 ∧ mK M1 c = 20 ∧ mR M1 b 0 = b + 1 ∧ mR M1 c 0 = c + 1 ∧ mK M1 (b + 1) = 30 ∧ mK M1 (c + 1) = 30 ∧ mN M1 (b + 1) = r2 ∧ mN M1 (c + 1) = r3 := by
    intro M1 hF
    refine ⟨?_, ?_, hF.2.2.2.2.2.2 _ (by omega), hF.2.2.2.2.2.2 _ (by omega), by rw [hF.1]; exact u1, by rw [hF.1]; exact v1, by rw [hF.2.2.1]; exact u2, by rw [hF.2.2.1]; exact v2, by rw [hF.1]; exact u3, by rw [hF.1]; exact v3, by rw [hF.2.1]; exact u4, by rw [hF.2.1]; exact v4⟩
    · rw [hF.2.2.2.2.2.2 b (by omega)]; exact hnb
    · rw [hF.2.2.2.2.2.2 c (by omega)]; exact hnc
  generalize hPost : (fun M' => mOk M' ∧ FI (fun x => x = a ∨ x = a + 1) M M' ∧ W3 M' a r ∧ wv M' a = wv M b * wv M c) = Post
  -- all rows but the first i
  have rowsL : ∀ (k : Nat) (i : Int) (M1 : mM), 0 ≤ i → nb - i = k → mOk M1 → FI (fun x => x = a ∨ x = a + 1) M M1 → mI M1 a 1 = nb + nc → (∀ j : Nat, (j : Int) < nb + nc → 0 ≤ mI M1 (a + 1) j ∧ mI M1 (a + 1) j < 16777216) → (∀ j : Nat, i + nc ≤ (j : Int) → (j : Int) < nb + nc → mI M1 (a + 1) j = 0) → dg (mI M1 (a + 1)) (nb + nc).toNat = dg (mI M (b + 1)) i.toNat * wv M c → h_MW_product_38 G d a b c i M1 Post := by
    intro k
    induction k with
    | zero =>
      intro i M1 g0 gk hO1 hF1 hn1 hd1 hz1 hv1
      obtain ⟨s1, s2, s3, s4, s5, s6, s7, s8, s9, s10, s11, s12⟩ := stay M1 hF1
      have hW1 : Wh M1 a r := hA0.fi hF1 (by omega) (by omega)
      refine k_MW_product_38 hO1 ⟨by omega, by omega⟩ ?_
      rw [s1]
      refine ⟨s5, fun hc => ⟨hW1.1, ?_⟩, fun hc => by omega⟩
      refine (s_MW_trim (mI M1 a 1).toNat M1 hO1 hW1 (fun j hj => hd1 j (by omega)) (by omega)).mono (fun M2 q2 => ?_)
      obtain ⟨q1, q2, q3, q4, q5, q6⟩ := q2
      rw [← hPost]
      refine ⟨q1, q1, hF1.trans (q2.mono (fun x q => Or.inl q)), ⟨q3, q4, q5⟩, ?_⟩
      rw [q6]
      unfold wv at hv1 ⊢
      rw [hn1, hv1, hnb, hnc, show i.toNat = nb.toNat by omega]
    | succ k ih =>
      intro i M1 g0 gk hO1 hF1 hn1 hd1 hz1 hv1
      obtain ⟨s1, s2, s3, s4, s5, s6, s7, s8, s9, s10, s11, s12⟩ := stay M1 hF1
      refine k_MW_product_38 hO1 ⟨by omega, by omega⟩ ?_
      rw [s1]
      refine ⟨s5, fun hc => by omega, fun hc => ?_⟩
      have hbi := ud i.toNat (by omega)
      -- the inner loop
      suffices H : ∀ (k2 : Nat) (j cy : Int) (M2 : mM), 0 ≤ j → nc - j = k2 → 0 ≤ cy → cy < 16777216 → mOk M2 → FI (fun x => x = a ∨ x = a + 1) M M2 → mI M2 a 1 = nb + nc → (∀ q : Nat, (q : Int) < nb + nc → 0 ≤ mI M2 (a + 1) q ∧ mI M2 (a + 1) q < 16777216) → (∀ q : Nat, i + nc ≤ (q : Int) → (q : Int) < nb + nc → mI M2 (a + 1) q = 0) → dg (mI M2 (a + 1)) (nb + nc).toNat + cy * 16777216 ^ (i + j).toNat = dg (mI M (b + 1)) i.toNat * wv M c + mI M (b + 1) i.toNat * dg (mI M (c + 1)) j.toNat * 16777216 ^ i.toNat → h_MW_product_52 G d a b c i cy j M2 Post by
        refine H nc.toNat 0 0 M1 (by omega) (by omega) (by omega) (by omega) hO1 hF1 hn1 hd1 hz1 ?_
        rw [show (0 : Int).toNat = 0 from rfl, hv1]
        simp [dg]
      intro k2
      induction k2 with
      | zero =>
        intro j cy M2 f0 fk c0 c1 hO2 hF2 hn2 hd2 hz2 hv2
        obtain ⟨s1, s2, s3, s4, s5, s6, s7, s8, s9, s10, s11, s12⟩ := stay M2 hF2
        have hW2 : Wh M2 a r := hA0.fi hF2 (by omega) (by omega)
        have hj : j = nc := by omega
        refine k_MW_product_52 hO2 ⟨by omega, by omega⟩ ⟨by omega, by omega⟩ ⟨by omega, by omega⟩ ?_
        rw [s2, hW2.2.1, hW2.2.2.2.1]
        refine ⟨s6, fun hc => ⟨hW2.1, hW2.2.2.1, by omega, ⟨by omega, by omega⟩, fun M4 e4 => ?_⟩, fun hc => by omega⟩
        have hF4 : FI (fun x => x = a ∨ x = a + 1) M2 M4 := by rw [e4]; exact FI.ui (Or.inr rfl)
        have e4a : ∀ q, mI M4 (a + 1) q = if q = (i + nc).toNat then cy else mI M2 (a + 1) q := fun q => by
          rw [e4, mI_UI]
          by_cases z : q = (i + nc).toNat
          · rw [if_pos ⟨rfl, z⟩, if_pos z]
          · rw [if_neg (fun w => z w.2), if_neg z]
        refine ih (i + 1) M4 (by omega) (by omega) (by rw [e4]; exact mOk_UI hO2 ⟨by omega, by omega⟩) (hF2.trans hF4) (by rw [e4, mI_UI, if_neg (by omega)]; exact hn2) (fun q hq => ?_) (fun q z1 z2 => ?_) ?_
        · rw [e4a]
          split
          · omega
          · exact hd2 q hq
        · rw [e4a, if_neg (by omega)]
          exact hz2 q (by omega) z2
        · -- the place i + nc was 0
          have hz := hz2 (i + nc).toNat (by omega) (by omega)
          obtain ⟨m, hm⟩ : ∃ m, (nb + nc).toNat = (i + nc).toNat + (m + 1) := ⟨(nb + nc).toNat - (i + nc).toNat - 1, by omega⟩
          have key : ∀ f : Nat → Int, (∀ q, f q = if q = (i + nc).toNat then cy else mI M2 (a + 1) q) → dg f (nb + nc).toNat = dg (mI M2 (a + 1)) (nb + nc).toNat + cy * 16777216 ^ (i + nc).toNat := by
            intro f hf
            rw [hm, dg_split, dg_split (f := mI M2 (a + 1)), dg_congr (g := mI M2 (a + 1)) (f := f) _ (fun q hq => by rw [hf, if_neg (by omega)])]
            have : ∀ n, dg (fun q => f ((i + nc).toNat + q)) (n + 1) = dg (fun q => mI M2 (a + 1) ((i + nc).toNat + q)) (n + 1) + cy := by
              intro n
              induction n with
              | zero => simp [dg, hf, hz]
              | succ n ihn =>
                rw [dg_succ (fun q => f ((i + nc).toNat + q)) (n + 1), ihn, dg_succ (fun q => mI M2 (a + 1) ((i + nc).toNat + q)) (n + 1)]
                show _ + f ((i + nc).toNat + (n + 1)) * _ = _ + mI M2 (a + 1) ((i + nc).toNat + (n + 1)) * _ + cy
                rw [show f ((i + nc).toNat + (n + 1)) = mI M2 (a + 1) ((i + nc).toNat + (n + 1)) by rw [hf, if_neg (by omega)]]
                omega
            rw [this, Int.add_mul]
            omega
          rw [key _ e4a, show (i + 1).toNat = i.toNat + 1 by omega, dg, Int.add_mul]
          rw [hj] at hv2
          rw [hv2]
          unfold wv
          rw [hnc, Int.mul_assoc, Int.mul_assoc, Int.mul_comm (dg (mI M (c + 1)) nc.toNat)]
      | succ k2 ih2 =>
        intro j cy M2 f0 fk c0 c1 hO2 hF2 hn2 hd2 hz2 hv2
        obtain ⟨s1, s2, s3, s4, s5, s6, s7, s8, s9, s10, s11, s12⟩ := stay M2 hF2
        have hW2 : Wh M2 a r := hA0.fi hF2 (by omega) (by omega)
        have hdj := hd2 (i + j).toNat (by omega)
        have hcj := vd j.toNat (by omega)
        have hp0 := Int.mul_nonneg hbi.1 hcj.1
        have hp1 : mI M (b + 1) i.toNat * mI M (c + 1) j.toNat ≤ 16777215 * 16777215 := Int.mul_le_mul (by omega) (by omega) hcj.1 (by omega)
        refine k_MW_product_52 hO2 ⟨by omega, by omega⟩ ⟨by omega, by omega⟩ ⟨by omega, by omega⟩ ?_
        rw [s2, hW2.2.1, hW2.2.2.2.1, s7, s8, s9, s10, s11, s12, s3, s4]
        generalize hS : cy + mI M2 (a + 1) (i + j).toNat + mI M (b + 1) i.toNat * mI M (c + 1) j.toNat = S
        have hS0 : 0 ≤ S := by omega
        have hS1 : S < 16777216 * 16777216 := by omega
        have hmm := Int.emod_nonneg S (show (16777216 : Int) ≠ 0 by decide)
        have hmm2 := Int.emod_lt_of_pos S (show (0 : Int) < 16777216 by decide)
        have hdm := Int.emod_add_mul_ediv S 16777216
        rw [Int.tmod_eq_emod_of_nonneg hS0, Int.tdiv_eq_ediv_of_nonneg hS0]
        refine ⟨s6, fun hc => by omega, fun hc => ⟨hW2.1, hW2.2.2.1, by omega, s5, rfl, by omega, rfl, by omega, ⟨by omega, by omega⟩, by omega, ⟨by omega, by omega⟩, fun M4 e4 => ?_⟩⟩
        have hF4 : FI (fun x => x = a ∨ x = a + 1) M2 M4 := by rw [e4]; exact FI.ui (Or.inr rfl)
        have e4a : ∀ q, mI M4 (a + 1) q = if q = (i + j).toNat then S % 16777216 else mI M2 (a + 1) q := fun q => by
          rw [e4, mI_UI]
          by_cases z : q = (i + j).toNat
          · rw [if_pos ⟨rfl, z⟩, if_pos z]
          · rw [if_neg (fun w => z w.2), if_neg z]
        refine ih2 (j + 1) _ M4 (by omega) (by omega) (by omega) (by omega) (by rw [e4]; exact mOk_UI hO2 ⟨by omega, by omega⟩) (hF2.trans hF4) (by rw [e4, mI_UI, if_neg (by omega)]; exact hn2) (fun q hq => ?_) (fun q z1 z2 => ?_) ?_
        · rw [e4a]
          split
          · omega
          · exact hd2 q hq
        · rw [e4a, if_neg (by omega)]
          exact hz2 q z1 z2
        · obtain ⟨m, hm⟩ : ∃ m, (nb + nc).toNat = (i + j).toNat + (m + 1) := ⟨(nb + nc).toNat - (i + j).toNat - 1, by omega⟩
          have key : dg (mI M4 (a + 1)) (nb + nc).toNat = dg (mI M2 (a + 1)) (nb + nc).toNat + (S % 16777216 - mI M2 (a + 1) (i + j).toNat) * 16777216 ^ (i + j).toNat := by
            rw [hm, dg_split, dg_split (f := mI M2 (a + 1)), dg_congr (g := mI M2 (a + 1)) (f := mI M4 (a + 1)) _ (fun q hq => by rw [e4a, if_neg (by omega)])]
            have : ∀ n, dg (fun q => mI M4 (a + 1) ((i + j).toNat + q)) (n + 1) = dg (fun q => mI M2 (a + 1) ((i + j).toNat + q)) (n + 1) + (S % 16777216 - mI M2 (a + 1) (i + j).toNat) := by
              intro n
              induction n with
              | zero =>
                simp [dg, e4a]
                omega
              | succ n ihn =>
                rw [dg_succ (fun q => mI M4 (a + 1) ((i + j).toNat + q)) (n + 1), ihn, dg_succ (fun q => mI M2 (a + 1) ((i + j).toNat + q)) (n + 1)]
                show _ + mI M4 (a + 1) ((i + j).toNat + (n + 1)) * _ = _ + mI M2 (a + 1) ((i + j).toNat + (n + 1)) * _ + (S % 16777216 - mI M2 (a + 1) (i + j).toNat)
                rw [show mI M4 (a + 1) ((i + j).toNat + (n + 1)) = mI M2 (a + 1) ((i + j).toNat + (n + 1)) by rw [e4a, if_neg (by omega)]]
                omega
            rw [this, Int.add_mul]
            omega
          rw [key, show (i + (j + 1)).toNat = (i + j).toNat + 1 by omega, show (j + 1).toNat = j.toNat + 1 by omega, dg, Int.pow_succ]
          have e5 : (16777216 : Int) ^ (i + j).toNat = 16777216 ^ i.toNat * 16777216 ^ j.toNat := by rw [← Int.pow_add, show (i + j).toNat = i.toNat + j.toNat by omega]
          have e6 : S * 16777216 ^ (i + j).toNat = (S % 16777216 + 16777216 * (S / 16777216)) * 16777216 ^ (i + j).toNat := by rw [hdm]
          rw [Int.add_mul] at e6
          have e7 : S * 16777216 ^ (i + j).toNat = cy * 16777216 ^ (i + j).toNat + mI M2 (a + 1) (i + j).toNat * 16777216 ^ (i + j).toNat + mI M (b + 1) i.toNat * mI M (c + 1) j.toNat * 16777216 ^ (i + j).toNat := by rw [← hS, Int.add_mul, Int.add_mul]
          have e8 : mI M (b + 1) i.toNat * (dg (mI M (c + 1)) j.toNat + mI M (c + 1) j.toNat * 16777216 ^ j.toNat) * 16777216 ^ i.toNat = mI M (b + 1) i.toNat * dg (mI M (c + 1)) j.toNat * 16777216 ^ i.toNat + mI M (b + 1) i.toNat * mI M (c + 1) j.toNat * 16777216 ^ (i + j).toNat := by
            rw [e5, Int.mul_add, Int.add_mul]
            congr 1
            rw [Int.mul_comm (16777216 ^ i.toNat)]
            simp only [Int.mul_assoc]
          have e9 : S / 16777216 * (16777216 ^ (i + j).toNat * 16777216) = 16777216 * (S / 16777216) * 16777216 ^ (i + j).toNat := by rw [Int.mul_comm (16777216 ^ (i + j).toNat), ← Int.mul_assoc, Int.mul_comm (S / 16777216)]
          rw [e8, e9, Int.sub_mul]
          omega
  -- the places become 0
  suffices H : ∀ (k : Nat) (i : Int) (M1 : mM), 0 ≤ i → nb + nc - i = k → mOk M1 → FI (fun x => x = a ∨ x = a + 1) M M1 → mI M1 a 1 = nb + nc → (∀ j : Nat, (j : Int) < i → mI M1 (a + 1) j = 0) → h_MW_product_15 G d a b c i M1 Post from
    H (nb + nc).toNat 0 M0 (by omega) (by omega) hO0 hF0 hn0 (fun j hj => by omega)
  intro k
  induction k with
  | zero =>
    intro i M1 g0 gk hO1 hF1 hn1 hz1
    have hW1 : Wh M1 a r := hA0.fi hF1 (by omega) (by omega)
    refine k_MW_product_15 hO1 ⟨by omega, by omega⟩ ⟨hW1.1, fun hc => ?_, fun hc => by omega⟩
    refine rowsL nb.toNat 0 M1 (by omega) (by omega) hO1 hF1 hn1 (fun j hj => by rw [hz1 j (by omega)]; omega) (fun j z1 z2 => hz1 j (by omega)) ?_
    rw [dg_zero _ (fun j hj => hz1 j (by omega))]
    simp [dg]
  | succ k ih =>
    intro i M1 g0 gk hO1 hF1 hn1 hz1
    have hW1 : Wh M1 a r := hA0.fi hF1 (by omega) (by omega)
    refine k_MW_product_15 hO1 ⟨by omega, by omega⟩ ?_
    rw [hW1.2.1, hW1.2.2.2.1]
    refine ⟨hW1.1, fun hc => by omega, fun hc => ⟨hW1.2.2.1, by omega, fun M2 e2 => ?_⟩⟩
    have hF2 : FI (fun x => x = a ∨ x = a + 1) M1 M2 := by rw [e2]; exact FI.ui (Or.inr rfl)
    refine ih (i + 1) M2 (by omega) (by omega) (by rw [e2]; exact mOk_UI hO1 ⟨by omega, by omega⟩) (hF1.trans hF2) (by rw [e2, mI_UI, if_neg (by omega)]; exact hn1) (fun j hj => ?_)
    rw [e2, mI_UI]
    split
    · rfl
    · exact hz1 j (by omega)
end W6
end
section
/-! The reference's whole numbers: halves, bits, tenths, small ones. -/
section W7
variable {G : mG} {d a b c r r2 r3 : Nat} {M : mM}
theorem s_MW_halve (hO : mOk M) (hA : W3 M a r) : Cv G y_MW_halve (d + 1) [vr a] M (fun M' => mOk M' ∧ FI (fun x => x = a ∨ x = a + 1) M M' ∧ W3 M' a r ∧ wv M' a = wv M a / 2) := by
  have hA0 := hA
  obtain ⟨⟨w1, w2, w3, w4, w5, w6, w7⟩, wd, wt⟩ := hA
  refine k_MW_halve hO ?_
  suffices H : ∀ (k : Nat) (i : Int) (M1 : mM), 0 ≤ i → mI M a 1 - i = k → mOk M1 → FI (fun x => x = a + 1) M M1 → (∀ j : Nat, (j : Int) < i → 0 ≤ mI M1 (a + 1) j ∧ mI M1 (a + 1) j < 16777216) → (∀ j : Nat, i ≤ (j : Int) → mI M1 (a + 1) j = mI M (a + 1) j) → 2 * dg (mI M1 (a + 1)) i.toNat + (wg M a 0) % 2 = dg (mI M (a + 1)) i.toNat + (if i = 0 then wg M a 0 % 2 else (wg M a i.toNat % 2) * 16777216 ^ i.toNat) → h_MW_halve_2 G d a i M1 (fun M' => mOk M' ∧ FI (fun x => x = a ∨ x = a + 1) M M' ∧ W3 M' a r ∧ wv M' a = wv M a / 2) from
    H (mI M a 1).toNat 0 M (by omega) (by omega) hO FI.refl (fun j hj => by omega) (fun j hj => rfl) (by simp [dg])
  intro k
  induction k with
  | zero =>
    intro i M1 h0 hk hO1 hF1 hd1 he1 hv1
    have hW1 : Wh M1 a r := hA0.1.out hF1 (by omega)
    have ea : mI M1 a = mI M a := hF1.2.2.2.2.2.2 _ (by omega)
    refine k_MW_halve_2 hO1 ⟨by omega, by omega⟩ ⟨hW1.1, fun hc => ?_, fun hc => by rw [ea] at hc; omega⟩
    refine (s_MW_trim (mI M1 a 1).toNat M1 hO1 hW1 (fun j hj => hd1 j (by rw [ea] at hj; omega)) (by rw [ea]; omega)).mono (fun M2 h2 => ?_)
    obtain ⟨g1, g2, g3, g4, g5, g6⟩ := h2
    refine ⟨g1, g1, (hF1.mono (fun x q => Or.inr q)).trans (g2.mono (fun x q => Or.inl q)), ⟨g3, g4, g5⟩, ?_⟩
    rw [g6]
    have hw : wg M a i.toNat = 0 := by unfold wg; rw [if_pos (by omega)]
    have hii : i.toNat = (mI M a 1).toNat := by omega
    have hb := hA0.wgb 0
    have hvv : 2 * wv M1 a + wg M a 0 % 2 = wv M a := by
      unfold wv
      rw [ea, ← hii, hv1]
      by_cases z : i = 0
      · rw [if_pos z]
        rw [z] at hw
        rw [show wg M a 0 = 0 from hw]
        simp
      · rw [if_neg z, hw]
        omega
    omega
  | succ k ih =>
    intro i M1 h0 hk hO1 hF1 hd1 he1 hv1
    have hW1 : Wh M1 a r := hA0.1.out hF1 (by omega)
    have ea : mI M1 a = mI M a := hF1.2.2.2.2.2.2 _ (by omega)
    have hda := wd i.toNat (by omega)
    have hb1 := hA0.wgb (i.toNat + 1)
    refine k_MW_halve_2 hO1 ⟨by omega, by omega⟩ ?_
    rw [hW1.2.1, hW1.2.2.2.1, ea, he1 i.toNat (by omega), he1 (i + 1).toNat (by omega)]
    refine ⟨hW1.1, fun hc => by omega, fun hc => ⟨hW1.2.2.1, by omega, ⟨by omega, by omega⟩, fun q => by omega, fun v hv => ?_⟩⟩
    have hv' : v = wg M a (i.toNat + 1) % 2 * 8388608 := by
      rw [hv]
      unfold wg
      by_cases z : mI M a 1 ≤ i + 1
      · rw [if_pos z, if_pos (by omega)]; rfl
      · rw [if_neg z, if_neg (by omega), show (i + 1).toNat = i.toNat + 1 by omega, Int.tmod_eq_emod_of_nonneg (wd _ (by omega)).1]
    rw [Int.tdiv_eq_ediv_of_nonneg hda.1]
    refine ⟨by omega, ⟨by omega, by omega⟩, fun M4 e4 => ?_⟩
    have hF4 : FI (fun x => x = a + 1) M1 M4 := by rw [e4]; exact FI.ui rfl
    have g2 : ∀ j, mI M4 (a + 1) j = if j = i.toNat then mI M (a + 1) i.toNat / 2 + v else mI M1 (a + 1) j := fun j => by
      rw [e4, mI_UI]
      by_cases z : j = i.toNat
      · rw [if_pos ⟨rfl, z⟩, if_pos z]
      · rw [if_neg (fun w => z w.2), if_neg z]
    refine ih (i + 1) M4 (by omega) (by omega) (by rw [e4]; exact mOk_UI hO1 ⟨by omega, by omega⟩) (hF1.trans hF4) (fun j hj => ?_) (fun j hj => ?_) ?_
    · rw [g2]
      split
      · omega
      · exact hd1 j (by omega)
    · rw [g2, if_neg (by omega)]
      exact he1 j (by omega)
    · have hwi : wg M a i.toNat = mI M (a + 1) i.toNat := by unfold wg; rw [if_neg (by omega)]
      rw [if_neg (by omega), show (i + 1).toNat = i.toNat + 1 by omega, dg, dg, g2, if_pos rfl, dg_congr (g := mI M1 (a + 1)) _ (fun j hj => by rw [g2, if_neg (by omega)]), Int.pow_succ]
      have e5 : wg M a (i.toNat + 1) % 2 * (16777216 ^ i.toNat * 16777216) = 2 * (v * 16777216 ^ i.toNat) := by
        rw [hv', Int.mul_comm (16777216 ^ i.toNat), ← Int.mul_assoc, ← Int.mul_assoc]
        congr 1
        omega
      have e6 : mI M (a + 1) i.toNat * 16777216 ^ i.toNat = (2 * (mI M (a + 1) i.toNat / 2) + mI M (a + 1) i.toNat % 2) * 16777216 ^ i.toNat := by congr 1; omega
      rw [Int.add_mul, Int.mul_assoc] at e6
      rw [e5, Int.add_mul]
      by_cases z : i = 0
      · rw [if_pos z] at hv1
        subst z
        simp [dg] at e6 ⊢
        have hwi0 : wg M a 0 = mI M (a + 1) 0 := hwi
        rw [hwi0]
        omega
      · rw [if_neg z, hwi] at hv1
        omega
theorem s_MW_tenth (hO : mOk M) (hA : W3 M a r) : Ci G y_MW_tenth (d + 1) [vr a] M (fun x M' => mOk M' ∧ FI (fun x => x = a ∨ x = a + 1) M M' ∧ W3 M' a r ∧ wv M' a = wv M a / 10 ∧ x = wv M a % 10) := by
  have hA0 := hA
  obtain ⟨⟨w1, w2, w3, w4, w5, w6, w7⟩, wd, wt⟩ := hA
  refine k_MW_tenth hO ⟨w1, ?_⟩
  suffices H : ∀ (k : Nat) (i rs : Int) (M1 : mM), i + 1 = k → i < mI M a 1 → 0 ≤ rs → rs < 10 → mOk M1 → FI (fun x => x = a + 1) M M1 → (∀ j : Nat, i < (j : Int) → (j : Int) < mI M a 1 → 0 ≤ mI M1 (a + 1) j ∧ mI M1 (a + 1) j < 16777216) → (∀ j : Nat, (j : Int) ≤ i → mI M1 (a + 1) j = mI M (a + 1) j) → 10 * (dg (mI M1 (a + 1)) (mI M a 1).toNat - dg (mI M1 (a + 1)) k) + rs * 16777216 ^ k = dg (mI M (a + 1)) (mI M a 1).toNat - dg (mI M (a + 1)) k → h_MW_tenth_9 G d a rs i M1 (fun x M' => mOk M' ∧ FI (fun x => x = a ∨ x = a + 1) M M' ∧ W3 M' a r ∧ wv M' a = wv M a / 10 ∧ x = wv M a % 10) from
    H (mI M a 1).toNat (mI M a 1 - 1) 0 M (by omega) (by omega) (by omega) (by omega) hO FI.refl (fun j z1 z2 => by omega) (fun j hj => rfl) (by simp)
  intro k
  induction k with
  | zero =>
    intro i rs M1 hk hi c0 c1 hO1 hF1 hd1 he1 hv1
    have hW1 : Wh M1 a r := hA0.1.out hF1 (by omega)
    have ea : mI M1 a = mI M a := hF1.2.2.2.2.2.2 _ (by omega)
    refine k_MW_tenth_9 hO1 ⟨by omega, by omega⟩ ⟨by omega, by omega⟩ ⟨fun hc => ⟨hW1.1, ?_⟩, fun hc => by omega⟩
    refine (s_MW_trim (mI M1 a 1).toNat M1 hO1 hW1 (fun j hj => hd1 j (by omega) (by rw [ea] at hj; omega)) (by rw [ea]; omega)).mono (fun M2 h2 => ?_)
    obtain ⟨g1, g2, g3, g4, g5, g6⟩ := h2
    have hvv : 10 * wv M1 a + rs = wv M a := by
      unfold wv
      rw [ea]
      simp [dg] at hv1
      omega
    refine ⟨g1, g1, (hF1.mono (fun x q => Or.inr q)).trans (g2.mono (fun x q => Or.inl q)), ⟨g3, g4, g5⟩, by omega, by omega⟩
  | succ k ih =>
    intro i rs M1 hk hi c0 c1 hO1 hF1 hd1 he1 hv1
    have hW1 : Wh M1 a r := hA0.1.out hF1 (by omega)
    have ea : mI M1 a = mI M a := hF1.2.2.2.2.2.2 _ (by omega)
    have hda := wd i.toNat (by omega)
    refine k_MW_tenth_9 hO1 ⟨by omega, by omega⟩ ⟨by omega, by omega⟩ ?_
    rw [hW1.2.1, hW1.2.2.2.1, he1 i.toNat (by omega)]
    generalize hs : rs * 16777216 + mI M (a + 1) i.toNat = s
    have hs0 : 0 ≤ s := by omega
    rw [Int.tmod_eq_emod_of_nonneg hs0, Int.tdiv_eq_ediv_of_nonneg hs0]
    refine ⟨fun hc => by omega, fun hc => ⟨hW1.1, hW1.2.2.1, by omega, ⟨by omega, by omega⟩, by omega, fun M4 e4 => ?_⟩⟩
    have hF4 : FI (fun x => x = a + 1) M1 M4 := by rw [e4]; exact FI.ui rfl
    have hik : i.toNat = k := by omega
    have g2 : ∀ j, mI M4 (a + 1) j = if j = k then s / 10 else mI M1 (a + 1) j := fun j => by
      rw [e4, mI_UI, hik]
      by_cases z : j = k
      · rw [if_pos ⟨rfl, z⟩, if_pos z]
      · rw [if_neg (fun w => z w.2), if_neg z]
    refine ih (i + -1) _ M4 (by omega) (by omega) (by omega) (by omega) (by rw [e4]; exact mOk_UI hO1 ⟨by omega, by omega⟩) (hF1.trans hF4) (fun j z1 z2 => ?_) (fun j hj => ?_) ?_
    · rw [g2]
      split
      · omega
      · exact hd1 j (by omega) z2
    · rw [g2, if_neg (by omega)]
      exact he1 j (by omega)
    · obtain ⟨m, hm⟩ : ∃ m, (mI M a 1).toNat = k + 1 + m := ⟨(mI M a 1).toNat - (k + 1), by omega⟩
      have e5 : dg (mI M4 (a + 1)) k = dg (mI M1 (a + 1)) k := dg_congr _ (fun j hj => by rw [g2, if_neg (by omega)])
      have e6 : dg (mI M4 (a + 1)) (mI M a 1).toNat = dg (mI M1 (a + 1)) k + s / 10 * 16777216 ^ k + (dg (mI M1 (a + 1)) (mI M a 1).toNat - dg (mI M1 (a + 1)) (k + 1)) := by
        rw [hm, dg_split, dg_split (f := mI M1 (a + 1)), dg_congr (f := fun j => mI M4 (a + 1) (k + 1 + j)) (g := fun j => mI M1 (a + 1) (k + 1 + j)) _ (fun j hj => by show mI M4 (a + 1) (k + 1 + j) = _; rw [g2, if_neg (by omega)]), dg_succ (mI M4 (a + 1)) k, e5, g2, if_pos rfl]
        omega
      rw [dg_succ (mI M (a + 1)) k, dg_succ (mI M1 (a + 1)) k, Int.pow_succ] at hv1
      rw [e6, e5, dg_succ (mI M1 (a + 1)) k]
      have e7 : s * 16777216 ^ k = (10 * (s / 10) + s % 10) * 16777216 ^ k := by congr 1; omega
      have e8 : s * 16777216 ^ k = rs * 16777216 * 16777216 ^ k + mI M (a + 1) k * 16777216 ^ k := by rw [← hs, Int.add_mul, hik]
      rw [Int.add_mul, Int.mul_assoc] at e7
      rw [show rs * (16777216 ^ k * 16777216) = rs * 16777216 * 16777216 ^ k by rw [Int.mul_comm (16777216 ^ k), ← Int.mul_assoc]] at hv1
      omega
theorem s_MW_set {x : Int} (h0 : 0 ≤ x) (h1 : x < 4722366482869645213696) (hx : i64 x) (hO : mOk M) (hA : Wh M a r) (hr : 3 ≤ r) : Cv G y_MW_set d [vr a, vl x] M (fun M' => mOk M' ∧ FI (fun x => x = a ∨ x = a + 1) M M' ∧ W3 M' a r ∧ wv M' a = x) := by
  have hA0 := hA
  obtain ⟨w1, w2, w3, w4, w5, w6, w7⟩ := hA
  refine k_MW_set hO hx ⟨w1, fun M0 e0 => ?_⟩
  have hF0 : FI (fun x => x = a ∨ x = a + 1) M M0 := by rw [e0]; exact FI.ui (Or.inl rfl)
  suffices H : ∀ (k : Nat) (y : Int) (M1 : mM), 0 ≤ y → i64 y → y < 16777216 ^ k → mI M1 a 1 + k = 3 → 0 ≤ mI M1 a 1 → mOk M1 → FI (fun x => x = a ∨ x = a + 1) M M1 → WD M1 a → (y = 0 → WT M1 a) → wv M1 a + y * 16777216 ^ (mI M1 a 1).toNat = x → h_MW_set_7 G d a y M1 (fun M' => mOk M' ∧ FI (fun x => x = a ∨ x = a + 1) M M' ∧ W3 M' a r ∧ wv M' a = x) by
    have e1 : mI M0 a 1 = 0 := by rw [e0, mI_UI, if_pos ⟨rfl, rfl⟩]
    refine H 3 x M0 h0 hx (by show x < 4722366482869645213696; exact h1) (by omega) (by omega) (by rw [e0]; exact mOk_UI hO ⟨by omega, by omega⟩) hF0 (fun j hj => by omega) (fun _ q => by omega) ?_
    unfold wv
    rw [e1]
    simp [dg]
  intro k
  induction k with
  | zero =>
    intro y M1 y0 yi yk hn hn0 hO1 hF1 hd1 ht1 hv1
    have hy : y = 0 := by
      have : y < 1 := yk
      omega
    have hW1 : Wh M1 a r := hA0.fi hF1 (by omega) (by omega)
    refine k_MW_set_7 hO1 yi ⟨fun hc => ⟨hO1, hF1, ⟨hW1, hd1, ht1 hy⟩, by rw [hy] at hv1; omega⟩, fun hc => ?_⟩
    exfalso
    apply hc
    unfold cmpL
    rw [if_neg (by omega), if_pos hy]
    omega
  | succ k ih =>
    intro y M1 y0 yi yk hn hn0 hO1 hF1 hd1 ht1 hv1
    have hW1 : Wh M1 a r := hA0.fi hF1 (by omega) (by omega)
    refine k_MW_set_7 hO1 yi ?_
    rw [hW1.2.1, hW1.2.2.2.1]
    have hcm : cmpL y 0 ≤ 0 ↔ y = 0 := by
      unfold cmpL
      by_cases q : y = 0
      · rw [if_neg (by omega), if_pos q]; omega
      · rw [if_pos (by omega)]; omega
    rw [hcm, l_and24 y0 yi.2, show shrL y 24 = y / 2 ^ 24 from l_shr 24 (by decide) yi]
    refine ⟨fun hc => ⟨hO1, hF1, ⟨hW1, hd1, ht1 hc⟩, by rw [hc] at hv1; omega⟩, fun hc => ⟨hW1.1, hW1.2.2.1, by omega, ⟨by omega, by omega⟩, fun M2 e2 => ?_⟩⟩
    have f1 : mI M2 a 1 = mI M1 a 1 := by rw [e2, mI_UI, if_neg (by omega)]
    rw [f1]
    refine ⟨⟨by omega, by omega⟩, fun M3 e3 => ?_⟩
    have hO2 : mOk M2 := by rw [e2]; exact mOk_UI hO1 ⟨by omega, by omega⟩
    have hF2 : FI (fun x => x = a ∨ x = a + 1) M1 M2 := by rw [e2]; exact FI.ui (Or.inr rfl)
    have hF3 : FI (fun x => x = a ∨ x = a + 1) M2 M3 := by rw [e3]; exact FI.ui (Or.inl rfl)
    have g1 : mI M3 a 1 = mI M1 a 1 + 1 := by rw [e3, mI_UI, if_pos ⟨rfl, rfl⟩]
    have g2 : ∀ j, mI M3 (a + 1) j = if j = (mI M1 a 1).toNat then y % 16777216 else mI M1 (a + 1) j := fun j => by
      rw [e3, mI_UI, if_neg (by omega), e2, mI_UI]
      by_cases z : j = (mI M1 a 1).toNat
      · rw [if_pos ⟨rfl, z⟩, if_pos z]
      · rw [if_neg (fun w => z w.2), if_neg z]
    rw [Int.pow_succ] at yk
    have hB := B_pos k
    have hyk : y / 2 ^ 24 < 16777216 ^ k := by
      have : y / 16777216 < 16777216 ^ k := Int.ediv_lt_of_lt_mul (by decide) (by omega)
      exact this
    have h24 : (2 : Int) ^ 24 = 16777216 := by decide
    rw [h24] at hyk ⊢
    refine ih (y / 16777216) M3 (by omega) (by have := yi.2; unfold i64; omega) hyk (by omega) (by omega) (by rw [e3]; exact mOk_UI hO2 ⟨by omega, by omega⟩) ((hF1.trans hF2).trans hF3) (fun j hj => ?_) (fun hy z => ?_) ?_
    · rw [g2]
      split
      · omega
      · exact hd1 j (by omega)
    · rw [g1, g2, if_pos (by omega)]
      omega
    · unfold wv at hv1 ⊢
      rw [g1, show (mI M1 a 1 + 1).toNat = (mI M1 a 1).toNat + 1 by omega, dg, g2, if_pos rfl, dg_congr (g := mI M1 (a + 1)) _ (fun j hj => by rw [g2, if_neg (by omega)]), Int.pow_succ]
      have e7 : y * 16777216 ^ (mI M1 a 1).toNat = (y % 16777216 + 16777216 * (y / 16777216)) * 16777216 ^ (mI M1 a 1).toNat := by congr 1; omega
      rw [Int.add_mul] at e7
      rw [show y / 16777216 * (16777216 ^ (mI M1 a 1).toNat * 16777216) = 16777216 * (y / 16777216) * 16777216 ^ (mI M1 a 1).toNat by rw [Int.mul_comm (16777216 ^ (mI M1 a 1).toNat), ← Int.mul_assoc, Int.mul_comm (y / 16777216)]]
      omega
end W7
end
section
/-! Bits of ints, the reference's bits. -/
theorem i_shr {x : Int} (k : Nat) (hk : k < 32) (h : i32 x) : shrI x k = x / 2 ^ k := by
  unfold shrI
  have e : (Int32.ofInt (k : Int) &&& 31) = nI k := by
    have : ∀ k, k < 32 → ((Int32.ofInt ((k : Nat) : Int) &&& 31) = nI k) := by decide
    exact this k hk
  rw [e]
  have e2 : ∀ k, k < 32 → ((nI k).toBitVec.smod 32).toNat = k := by decide
  rw [pk_shr _ _ k (e2 k hk), i32_toInt h, Int.shiftRight_eq_div_pow]
  norm_cast
theorem i_and {x : Int} (k : Nat) (hk : k < 32) (m : Int) (hm : m = 2 ^ k - 1) (h : i32 m) : andI x m = x % 2 ^ k := by
  unfold andI
  have hmask : (Int32.ofInt m).toBitVec.toNat = 2 ^ k - 1 := by
    have h1 := i32_toInt h
    have h2 : (Int32.ofInt m).toBitVec.toInt = m := h1
    rw [BitVec.toInt_eq_toNat_cond] at h2
    have h3 := (Int32.ofInt m).toBitVec.isLt
    have h4 : (2 : Int) ^ k = ((2 ^ k : Nat) : Int) := by norm_cast
    have h5 : 1 ≤ 2 ^ k := Nat.one_le_two_pow
    rw [h4] at hm
    unfold i32 at h
    split at h2 <;> omega
  rw [pk_and (Int32.ofInt x) k hmask]
  have hb : (Int32.ofInt x).toBitVec.toNat = (x % 4294967296).toNat := by
    show (BitVec.ofInt 32 x).toNat = _
    rw [BitVec.toNat_ofInt]
    rfl
  rw [hb]
  have hk31 : k ≤ 31 := by omega
  have hp : 2 ^ k ≤ 2 ^ 31 := Nat.pow_le_pow_right (by decide) hk31
  have hp0 : 0 < 2 ^ k := Nat.two_pow_pos k
  have hlt : (x % 4294967296).toNat % 2 ^ k < 2 ^ 31 := Nat.lt_of_lt_of_le (Nat.mod_lt _ hp0) hp
  rw [nI_toInt hlt]
  have hd : (2 : Int) ^ k ∣ 4294967296 := by
    refine ⟨2 ^ (32 - k), ?_⟩
    rw [← Int.pow_add, show k + (32 - k) = 32 by omega]
    decide
  have h4 : ((2 ^ k : Nat) : Int) = (2 : Int) ^ k := by norm_cast
  rw [Int.natCast_emod, h4, Int.toNat_of_nonneg (Int.emod_nonneg _ (by decide)), Int.emod_emod_of_dvd _ hd]
section W8
variable {G : mG} {d a r : Nat} {M : mM}
theorem pow24 (q : Nat) : (16777216 : Int) ^ q = 2 ^ (24 * q) := by
  rw [Int.pow_mul]
  rfl
theorem s_MW_bit {k : Int} (h0 : 0 ≤ k) (hk : i32 k) (hO : mOk M) (hA : W3 M a r) : Ci G y_MW_bit d [vr a, vi k] M (fun x M' => M' = M ∧ x = if wv M a / 2 ^ k.toNat % 2 = 1 then 1 else 0) := by
  have hA0 := hA
  obtain ⟨⟨w1, w2, w3, w4, w5, w6, w7⟩, wd, wt⟩ := hA
  refine k_MW_bit hO hk ?_
  rw [w2, w4, Int.tdiv_eq_ediv_of_nonneg h0, Int.tmod_eq_emod_of_nonneg h0]
  refine ⟨w1, fun hc => ⟨w3, by omega⟩, fun v hv => ⟨rfl, ?_⟩⟩
  rw [hv]
  have hsp : k.toNat = 24 * (k / 24).toNat + (k % 24).toNat := by omega
  by_cases q : mI M a 1 ≤ k / 24
  · have h1 := hA0.lt
    have h2 := hA0.nonneg
    have h3 := pow_mono (m := (mI M a 1).toNat) (n := (k / 24).toNat) (by omega)
    have h4 : wv M a < 2 ^ k.toNat := by
      rw [hsp, Int.pow_add, ← pow24]
      have : (16777216 : Int) ^ (k / 24).toNat * 1 ≤ 16777216 ^ (k / 24).toNat * 2 ^ (k % 24).toNat := Int.mul_le_mul_of_nonneg_left (by have : (0 : Int) < 2 ^ (k % 24).toNat := Int.pow_pos (by decide); omega) (Int.le_of_lt (B_pos _))
      omega
    rw [if_pos (Or.inl q), Int.ediv_eq_zero_of_lt h2 h4]
    rfl
  · have hdd := wd (k / 24).toNat (by omega)
    have e1 : andI (shrI (mI M (a + 1) (k / 24).toNat) (k % 24)) 1 = mI M (a + 1) (k / 24).toNat / 2 ^ (k % 24).toNat % 2 := by
      have := i_shr (x := mI M (a + 1) (k / 24).toNat) (k % 24).toNat (by omega) ⟨by omega, by omega⟩
      rw [show (((k % 24).toNat : Nat) : Int) = k % 24 by omega] at this
      rw [this, i_and 1 (by decide) 1 (by decide) ⟨by decide, by decide⟩]
      rfl
    have e2 : wv M a / 2 ^ k.toNat % 2 = mI M (a + 1) (k / 24).toNat / 2 ^ (k % 24).toNat % 2 := by
      obtain ⟨m, hm⟩ : ∃ m, (mI M a 1).toNat = (k / 24).toNat + 1 + m := ⟨(mI M a 1).toNat - ((k / 24).toNat + 1), by omega⟩
      unfold wv
      rw [hm, dg_split, dg_succ, Int.pow_succ, hsp, Int.pow_add, ← pow24]
      have hlo := dg_lt (f := mI M (a + 1)) (k / 24).toNat (fun j hj => (wd j (by omega)).2)
      have hlo0 := dg_nonneg (f := mI M (a + 1)) (k / 24).toNat (fun j hj => (wd j (by omega)).1)
      generalize hT : dg (fun j => mI M (a + 1) ((k / 24).toNat + 1 + j)) m = T
      generalize hL : dg (mI M (a + 1)) (k / 24).toNat = Lo at hlo hlo0 ⊢
      generalize hDg : mI M (a + 1) (k / 24).toNat = Dg at hdd ⊢
      have hB := B_pos (k / 24).toNat
      generalize hP : (16777216 : Int) ^ (k / 24).toNat = P at hB hlo ⊢
      rw [← Int.ediv_ediv_of_nonneg (Int.le_of_lt hB)]
      have e3 : (Lo + Dg * P + T * (P * 16777216)) / P = Dg + T * 16777216 := by
        rw [show Lo + Dg * P + T * (P * 16777216) = Lo + (Dg + T * 16777216) * P by rw [Int.add_mul, Int.mul_comm P, ← Int.mul_assoc]; omega, Int.add_mul_ediv_right _ _ (by omega), Int.ediv_eq_zero_of_lt hlo0 hlo]
        omega
      rw [e3]
      have hk24 : (k % 24).toNat < 24 := by omega
      generalize hs : (k % 24).toNat = s at hk24 ⊢
      have e4 : (16777216 : Int) = 2 ^ s * (2 * 2 ^ (23 - s)) := by
        rw [← Int.pow_succ', ← Int.pow_add, show s + (23 - s + 1) = 24 by omega]
        decide
      have hp2 : (0 : Int) < 2 ^ s := Int.pow_pos (by decide)
      rw [e4, show Dg + T * (2 ^ s * (2 * 2 ^ (23 - s))) = Dg + (T * 2 ^ (23 - s) * 2) * 2 ^ s by
        rw [Int.mul_comm (2 ^ s), ← Int.mul_assoc, ← Int.mul_assoc, Int.mul_assoc T 2, Int.mul_comm 2 (2 ^ (23 - s)), ← Int.mul_assoc], Int.add_mul_ediv_right _ _ (by omega)]
      omega
    rw [e1, e2]
    by_cases z : mI M (a + 1) (k / 24).toNat / 2 ^ (k % 24).toNat % 2 = 1
    · rw [if_neg (by intro w; rcases w with w | w; exact q w; exact w z), if_pos z]
    · rw [if_pos (Or.inr z), if_neg z]
/-- how many bits -/
theorem s_MW_places (hO : mOk M) (hA : W3 M a r) : Ci G y_MW_places d [vr a] M (fun x M' => M' = M ∧ 0 ≤ x ∧ x ≤ 24 * r ∧ wv M a < 2 ^ x.toNat ∧ (0 < x → 2 ^ (x - 1).toNat ≤ wv M a)) := by
  have hA0 := hA
  obtain ⟨⟨w1, w2, w3, w4, w5, w6, w7⟩, wd, wt⟩ := hA
  refine k_MW_places hO ?_
  rw [w2, w4]
  refine ⟨w1, fun hc => ⟨w3, by omega⟩, fun v hv => ?_⟩
  by_cases hz : mI M a 1 = 0
  · rw [if_pos hz] at hv
    rw [hz, hv]
    refine k_MW_places_33 hO ⟨by omega, by omega⟩ ⟨by omega, by omega⟩ ⟨fun hc => ⟨w1, fun x hx => ?_⟩, fun hc => by omega⟩
    rw [if_pos hz] at hx
    have h1 := hA0.lt
    rw [hz] at h1
    subst hx
    exact ⟨rfl, by omega, by omega, h1, fun q => by omega⟩
  · rw [if_neg hz] at hv
    have hdd := wd (mI M a 1 - 1).toNat (by omega)
    have hne := wt (by omega)
    have hlo := dg_lt (f := mI M (a + 1)) (mI M a 1 - 1).toNat (fun j hj => (wd j (by omega)).2)
    have hlo0 := dg_nonneg (f := mI M (a + 1)) (mI M a 1 - 1).toNat (fun j hj => (wd j (by omega)).1)
    have hval : wv M a = dg (mI M (a + 1)) (mI M a 1 - 1).toNat + v * 2 ^ (24 * (mI M a 1 - 1).toNat) := by
      unfold wv
      rw [show (mI M a 1).toNat = (mI M a 1 - 1).toNat + 1 by omega, dg_succ, hv, pow24]
    rw [pow24] at hlo
    have hP : (0 : Int) < 2 ^ (24 * (mI M a 1 - 1).toNat) := Int.pow_pos (by decide)
    -- the loop over the highest digit: what is left of it after s bits
    suffices H : ∀ (n : Nat) (y : Int) (s : Nat), 0 ≤ y → y < 2 ^ n → s + n = 24 → y = v / 2 ^ s → (y = 0 → 0 < s ∧ 0 < v / 2 ^ (s - 1)) → h_MW_places_33 G d a (24 * (mI M a 1 - 1) + s) y M (fun x M' => M' = M ∧ 0 ≤ x ∧ x ≤ 24 * r ∧ wv M a < 2 ^ x.toNat ∧ (0 < x → 2 ^ (x - 1).toNat ≤ wv M a)) by
      have h9 := H 24 v 0 (by omega) (by rw [hv]; exact hdd.2) rfl (by simp) (fun q => by omega)
      rw [show 24 * (mI M a 1 - 1) + ((0 : Nat) : Int) = 24 * (mI M a 1 - 1) by omega] at h9
      exact h9
    have fin : ∀ (s : Nat), s ≤ 24 → v / 2 ^ s = 0 → 0 < s → 0 < v / 2 ^ (s - 1) → h_MW_places_33 G d a (24 * (mI M a 1 - 1) + s) 0 M (fun x M' => M' = M ∧ 0 ≤ x ∧ x ≤ 24 * r ∧ wv M a < 2 ^ x.toNat ∧ (0 < x → 2 ^ (x - 1).toNat ≤ wv M a)) := by
      intro s hs24 hvs hs0 hvs1
      refine k_MW_places_33 hO ⟨by omega, by omega⟩ ⟨by omega, by omega⟩ ⟨fun hc => ⟨w1, fun x hx => ?_⟩, fun hc => by omega⟩
      rw [if_neg hz] at hx
      subst hx
      have hp2 : (0 : Int) < 2 ^ s := Int.pow_pos (by decide)
      have hp3 : (0 : Int) < 2 ^ (s - 1) := Int.pow_pos (by decide)
      have b1 : v < 2 ^ s := by
        have := Int.lt_ediv_add_one_mul_self v hp2
        rw [hvs] at this
        omega
      have b2 : 2 ^ (s - 1) ≤ v := by
        have := Int.ediv_mul_le v (show (2 : Int) ^ (s - 1) ≠ 0 by omega)
        have h2 : 1 * 2 ^ (s - 1) ≤ v / 2 ^ (s - 1) * 2 ^ (s - 1) := Int.mul_le_mul_of_nonneg_right (by omega) (Int.le_of_lt hp3)
        omega
      refine ⟨rfl, by omega, by omega, ?_, fun _ => ?_⟩
      · rw [hval, show (24 * (mI M a 1 - 1) + (s : Int)).toNat = 24 * (mI M a 1 - 1).toNat + s by omega, Int.pow_add]
        have : (v + 1) * 2 ^ (24 * (mI M a 1 - 1).toNat) ≤ 2 ^ s * 2 ^ (24 * (mI M a 1 - 1).toNat) := Int.mul_le_mul_of_nonneg_right (by omega) (Int.le_of_lt hP)
        rw [Int.add_mul] at this
        rw [Int.mul_comm (2 ^ (24 * (mI M a 1 - 1).toNat))]
        omega
      · rw [hval, show (24 * (mI M a 1 - 1) + (s : Int) - 1).toNat = 24 * (mI M a 1 - 1).toNat + (s - 1) by omega, Int.pow_add]
        have : 2 ^ (s - 1) * 2 ^ (24 * (mI M a 1 - 1).toNat) ≤ v * 2 ^ (24 * (mI M a 1 - 1).toNat) := Int.mul_le_mul_of_nonneg_right b2 (Int.le_of_lt hP)
        rw [Int.mul_comm (2 ^ (24 * (mI M a 1 - 1).toNat))]
        omega
    intro n
    induction n with
    | zero =>
      intro y s y0 yn hsn hy hy0
      have hyz : y = 0 := by
        have : y < 1 := yn
        omega
      subst hyz
      exact fin s (by omega) hy.symm (hy0 rfl).1 (hy0 rfl).2
    | succ n ih =>
      intro y s y0 yn hsn hy hy0
      by_cases hyz : y = 0
      · subst hyz
        exact fin s (by omega) hy.symm (hy0 rfl).1 (hy0 rfl).2
      · have hyb : y ≤ v := by rw [hy]; exact Int.ediv_le_self _ (by omega)
        refine k_MW_places_33 hO ⟨by omega, by omega⟩ ⟨by omega, by omega⟩ ⟨fun hc => by omega, fun hc => ?_⟩
        rw [Int.tdiv_eq_ediv_of_nonneg y0, show 24 * (mI M a 1 - 1) + (s : Int) + 1 = 24 * (mI M a 1 - 1) + ((s + 1 : Nat) : Int) by omega]
        rw [Int.pow_succ] at yn
        refine ih (y / 2) (s + 1) (by omega) (by omega) (by omega) ?_ (fun q => ⟨by omega, ?_⟩)
        · rw [hy, Int.pow_succ, Int.ediv_ediv_of_nonneg (Int.le_of_lt (Int.pow_pos (by decide)))]
        · rw [show s + 1 - 1 = s by omega, ← hy]
          omega
end W8
end
section
/-! Frames with new cells; the reference's growing lists. -/
/-- P: lists that may have grown; S: other cells whose numbers may have changed -/
def FN (P S : Nat → Prop) (M M' : mM) : Prop := (mZ M ≤ mZ M' ∧ ∀ p, P p → p < mZ M) ∧ (∀ x, x < mZ M → mK M' x = mK M x ∧ mN M' x = mN M x) ∧ (∀ x, x < mZ M → ¬ P x → mR M' x = mR M x) ∧ (∀ x, x < mZ M → ¬ P x → (∀ p, P p → x ≠ mR M p 0) → ¬ S x → mI M' x = mI M x ∧ mL M' x = mL M x) ∧ (∀ p, P p → mR M' p 0 = mR M p 0 ∨ mZ M ≤ mR M' p 0)
section FN
variable {P S P' S' : Nat → Prop} {M M1 M2 : mM}
theorem FN.refl (h : ∀ p, P p → p < mZ M) : FN P S M M := ⟨⟨Nat.le_refl _, h⟩, fun _ _ => ⟨rfl, rfl⟩, fun _ _ _ => rfl, fun _ _ _ _ _ => ⟨rfl, rfl⟩, fun _ _ => Or.inl rfl⟩
theorem FN.trans (h : FN P S M M1) (k : FN P S M1 M2) : FN P S M M2 := by
  obtain ⟨⟨h1, h0⟩, h2, h3, h4, h5⟩ := h
  obtain ⟨⟨k1, k0⟩, k2, k3, k4, k5⟩ := k
  refine ⟨⟨by omega, h0⟩, fun x hx => ⟨((k2 x (by omega)).1).trans (h2 x hx).1, ((k2 x (by omega)).2).trans (h2 x hx).2⟩, fun x hx hp => (k3 x (by omega) hp).trans (h3 x hx hp), fun x hx hp hq hs => ?_, fun p hp => ?_⟩
  · have a := h4 x hx hp hq hs
    have b := k4 x (by omega) hp (fun p hp2 e => by
      rcases h5 p hp2 with w | w
      · exact hq p hp2 (e.trans w)
      · omega) hs
    exact ⟨b.1.trans a.1, b.2.trans a.2⟩
  · rcases h5 p hp with w | w
    · rcases k5 p hp with u | u
      · exact Or.inl (u.trans w)
      · exact Or.inr (by omega)
    · rcases k5 p hp with u | u
      · exact Or.inr (by omega)
      · exact Or.inr (by omega)
theorem FN.mono (h : FN P S M M1) (hp : ∀ p, P p → P' p) (hs : ∀ x, S x → S' x) (h0 : ∀ p, P' p → p < mZ M) : FN P' S' M M1 := by
  obtain ⟨⟨h1, -⟩, h2, h3, h4, h5⟩ := h
  refine ⟨⟨h1, h0⟩, h2, fun x hx hq => h3 x hx (fun w => hq (hp x w)), fun x hx hq hr hs' => h4 x hx (fun w => hq (hp x w)) (fun p w => hr p (hp p w)) (fun w => hs' (hs x w)), fun p hq => ?_⟩
  by_cases z : P p
  · exact h5 p z
  · exact Or.inl (by rw [h3 p (h0 p hq) z])
theorem FI.fn (h : FI S M M1) : FN (fun _ => False) S M M1 := by
  obtain ⟨h1, h2, h3, h4, h5, h6, h7⟩ := h
  exact ⟨⟨by rw [h5]; exact Nat.le_refl _, fun p q => q.elim⟩, fun x _ => ⟨by rw [h1], by rw [h2]⟩, fun x _ _ => by rw [h3], fun x _ _ _ q => ⟨h7 x q, by rw [h4]⟩, fun p q => q.elim⟩
end FN
/-- how much a list holds, at most -/
def cp (M : mM) (p : Nat) : Nat := mN M (mR M p 0)
/-- a growing list -/
def Nu (M : mM) (p : Nat) : Prop := mK M p = 15 ∧ mK M (mR M p 0) = 30 ∧ (p < mZ M ∧ mR M p 0 < mZ M) ∧ (0 ≤ mI M p 1 ∧ mI M p 1 ≤ cp M p) ∧ (16 ≤ cp M p ∧ cp M p % 16 = 0 ∧ cp M p ≤ 2097152)
/-- the list's length, and what stands at j -/
def ln (M : mM) (p : Nat) : Int := mI M p 1
def nt (M : mM) (p j : Nat) : Int := mI M (mR M p 0) j
def psum (f : Nat → Nat) : List Nat → Nat
  | [] => 0
  | a :: l => f a + psum f l
theorem psum_congr {f g : Nat → Nat} : ∀ (l : List Nat), (∀ q, q ∈ l → f q = g q) → psum f l = psum g l
  | [], _ => rfl
  | a :: l, h => by rw [psum, psum, h a (List.mem_cons_self ..), psum_congr l (fun q hq => h q (List.mem_cons_of_mem _ hq))]
theorem psum_one {f g : Nat → Nat} {p : Nat} : ∀ (l : List Nat), l.Nodup → p ∈ l → (∀ q, q ∈ l → q ≠ p → g q = f q) → psum g l + f p = psum f l + g p
  | [], _, hp, _ => by simp at hp
  | a :: l, hn, hp, h => by
    rw [psum, psum]
    have hn' := List.nodup_cons.1 hn
    by_cases z : a = p
    · subst z
      rw [psum_congr l (fun q hq => h q (List.mem_cons_of_mem _ hq) (fun w => hn'.1 (by rw [← w]; exact hq)))]
      omega
    · have hp' : p ∈ l := by
        rcases List.mem_cons.1 hp with w | w
        · exact absurd w.symm z
        · exact w
      have a1 := psum_one (f := f) (g := g) l hn'.2 hp' (fun q hq => h q (List.mem_cons_of_mem _ hq))
      rw [h a (List.mem_cons_self ..) z]
      omega
/-- the room that the lists of L have taken -/
def RmL (L : List Nat) (M M' : mM) : Prop := mS M' + 2 * psum (cp M) L ≤ mS M + 2 * psum (cp M') L ∧ mZ M' + psum (fun p => cp M p / 16) L ≤ mZ M + psum (fun p => cp M' p / 16) L
theorem RmL.trans {L : List Nat} {M M1 M2 : mM} (h : RmL L M M1) (k : RmL L M1 M2) : RmL L M M2 := by
  obtain ⟨h1, h2⟩ := h
  obtain ⟨k1, k2⟩ := k
  exact ⟨by omega, by omega⟩
theorem RmL.fi {S : Nat → Prop} {L : List Nat} {M M' : mM} (h : FI S M M') : RmL L M M' := by
  obtain ⟨h1, h2, h3, h4, h5, h6, h7⟩ := h
  have e : cp M' = cp M := by funext p; unfold cp; rw [h2, h3]
  unfold RmL
  rw [e, h5, h6]
  omega
/-- the lists of L lie apart -/
def Apt (L : List Nat) (M : mM) : Prop := ∀ p q, p ∈ L → q ∈ L → p ≠ q → mR M p 0 ≠ mR M q 0
section NU
variable {G : mG} {d p : Nat} {M : mM}
theorem Nu.fn {P S : Nat → Prop} {M' : mM} (h : Nu M p) (f : FN P S M M') (hp : ¬ P p) (ha : ∀ q, P q → mR M p 0 ≠ mR M q 0) (ha2 : ¬ P (mR M p 0)) (hq : ∀ q, P q → p ≠ mR M q 0) (hs : ¬ S p) (hs2 : ¬ S (mR M p 0)) : Nu M' p ∧ ln M' p = ln M p ∧ (∀ j, nt M' p j = nt M p j) ∧ cp M' p = cp M p ∧ mR M' p = mR M p := by
  obtain ⟨h1, h2, ⟨h3, h4⟩, h5, h6⟩ := h
  obtain ⟨⟨f1, f0⟩, f2, f3, f4, f5⟩ := f
  have e1 := f3 p h3 hp
  have e2 := f4 p h3 hp (fun q w => hq q w) hs
  have e3 := f4 (mR M p 0) h4 ha2 ha hs2
  have e4 := f2 p h3
  have e5 := f2 (mR M p 0) h4
  have ec : cp M' p = cp M p := by unfold cp; rw [e1, e5.2]
  refine ⟨⟨by rw [e4.1]; exact h1, by rw [e1, e5.1]; exact h2, ⟨by omega, by rw [e1]; omega⟩, by rw [e2.1, ec]; exact h5, by rw [ec]; exact h6⟩, by unfold ln; rw [e2.1], fun j => by unfold nt; rw [e1, e3.1], ec, e1⟩
/-- what adding leaves behind -/
def adB (B : Nat) (M : mM) (p : Nat) (v : Int) (M' : mM) : Prop := mOk M' ∧ Nu M' p ∧ FN (fun x => x = p) (fun _ => False) M M' ∧ ln M' p = ln M p + 1 ∧ (∀ j : Nat, (j : Int) < ln M p → nt M' p j = nt M p j) ∧ nt M' p (ln M p).toNat = v ∧ (mS M' + 2 * cp M p = mS M + 2 * cp M' p ∧ mZ M' + cp M p / 16 ≤ mZ M + cp M' p / 16) ∧ (cp M' p = cp M p ∨ cp M' p ≤ 2 * B)
def adQ (M : mM) (p : Nat) (v : Int) (M' : mM) : Prop := adB 32768 M p v M'
theorem s_MN_addB {v : Int} {B : Nat} (hv : i32 v) (hO : mOk M) (hN : Nu M p) (hsz : ln M p ≤ B) (hB : B ≤ 65536) : Cv G y_MN_add d [vr p, vi v] M (adB B M p v) := by
  obtain ⟨h1, h2, ⟨h3, h4⟩, ⟨h5, h5'⟩, ⟨h6, h7, h8⟩⟩ := id hN
  unfold ln at hsz
  have hne : p ≠ mR M p 0 := fun w => by rw [← w, h1] at h2; omega
  have ecp : mN M (mR M p 0) = cp M p := rfl
  refine k_MN_add hO hv ⟨h1, h2, ⟨by omega, by omega⟩, fun e => ⟨⟨by omega, by omega⟩, fun M1 e1 => ?_⟩, fun e => ⟨⟨h5, by omega⟩, fun M1 e1 => ?_⟩⟩
  · have o1 : mOk M1 := by rw [e1]; exact mOk_New hO
    have z1 : mZ M1 = mZ M + 1 := by rw [e1]; rfl
    have c1 : mS M1 = mS M + (2 * mI M p 1).toNat := by rw [e1]; rfl
    have k1 : ∀ x, mK M1 x = if x = mZ M then 30 else mK M x := fun x => by rw [e1]; rfl
    have n1 : ∀ x, mN M1 x = if x = mZ M then (2 * mI M p 1).toNat else mN M x := fun x => by rw [e1]; rfl
    have r1 : ∀ x, x < mZ M → mR M1 x = mR M x := fun x hx => by funext j; rw [e1, mR_New, if_neg (by omega)]
    have i1 : ∀ x, x < mZ M → mI M1 x = mI M x := fun x hx => by funext j; rw [e1, mI_New, if_neg (by omega)]
    have l1 : ∀ x, x < mZ M → mL M1 x = mL M x := fun x hx => by funext j; rw [e1, mL_New, if_neg (by omega)]
    clear e1
    suffices H : ∀ (c l : Nat) (M2 : mM), (l : Int) + c = mI M p 1 → mOk M2 → FI (fun x => x = mZ M) M1 M2 → (∀ j, j < l → mI M2 (mZ M) j = mI M (mR M p 0) j) → h_MN_add_23 G d p v (mZ M) l M2 (adB B M p v) from
      H (mI M p 1).toNat 0 M1 (by omega) o1 FI.refl (fun j hj => by omega)
    intro c
    induction c with
    | zero =>
      intro l M2 hl o2 f2 h2'
      obtain ⟨f2k, f2n, f2r, f2l, f2z, f2s, f2i⟩ := f2
      have el : (mI M p 1).toNat = l := by omega
      have ip : mI M2 p = mI M p := by rw [f2i p (by omega)]; exact i1 p h3
      have kp : mK M2 p = 15 := by rw [f2k, k1, if_neg (by omega)]; exact h1
      refine k_MN_add_23 o2 hv ⟨by omega, by omega⟩ ?_
      rw [ip]
      refine ⟨kp, fun _ M3 e3 => ?_, fun w => by omega⟩
      have r3 : ∀ x j, mR M3 x j = if x = p ∧ j = 0 then mZ M else mR M2 x j := fun x j => by rw [e3, mR_UR]
      have o3 : mOk M3 := by rw [e3]; exact mOk_UR o2
      have i3 : mI M3 = mI M2 := by rw [e3]; rfl
      have rp3 : mR M3 p 0 = mZ M := by rw [r3, if_pos ⟨rfl, rfl⟩]
      have k3 : mK M3 = mK M2 := by rw [e3]; rfl
      have n3 : mN M3 = mN M2 := by rw [e3]; rfl
      have kz : mK M3 (mZ M) = 30 := by rw [k3, f2k, k1, if_pos rfl]
      have nz : mN M3 (mZ M) = (2 * mI M p 1).toNat := by rw [n3, f2n, n1, if_pos rfl]
      rw [rp3, i3, ip, el]
      refine ⟨kz, by omega, fun M4 e4 => ?_⟩
      have o4 : mOk M4 := by rw [e4]; exact mOk_UI o3 hv
      have i4 : ∀ x j, mI M4 x j = if x = mZ M ∧ j = l then v else mI M2 x j := fun x j => by rw [e4, mI_UI, i3]
      have ip4 : mI M4 p 1 = mI M p 1 := by rw [i4, if_neg (fun w => by have := w.1; omega), ip]
      refine ⟨by rw [ip4]; exact ⟨by omega, by omega⟩, fun M5 e5 => ?_⟩
      rw [ip4] at e5
      have o5 : mOk M5 := by rw [e5]; exact mOk_UI o4 ⟨by omega, by omega⟩
      have i5 : ∀ x j, mI M5 x j = if x = p ∧ j = 1 then mI M p 1 + 1 else if x = mZ M ∧ j = l then v else mI M2 x j := fun x j => by rw [e5, mI_UI, i4]
      have k5 : ∀ x, mK M5 x = if x = mZ M then 30 else mK M x := fun x => by rw [e5, mK_UI, e4, mK_UI, k3, f2k, k1]
      have n5 : ∀ x, mN M5 x = if x = mZ M then (2 * mI M p 1).toNat else mN M x := fun x => by rw [e5, mN_UI, e4, mN_UI, n3, f2n, n1]
      have r5 : ∀ x j, mR M5 x j = if x = p ∧ j = 0 then mZ M else mR M2 x j := fun x j => by rw [e5, mR_UI, e4, mR_UI, r3]
      have l5 : mL M5 = mL M2 := by rw [e5, mL_UI, e4, mL_UI, e3]; rfl
      have z5 : mZ M5 = mZ M + 1 := by rw [e5, mZ_UI, e4, mZ_UI, e3, mZ_UR, f2z, z1]
      have c5 : mS M5 = mS M + (2 * mI M p 1).toNat := by rw [e5, mS_UI, e4, mS_UI, e3, mS_UR, f2s, c1]
      have rp5 : mR M5 p 0 = mZ M := by rw [r5, if_pos ⟨rfl, rfl⟩]
      have ec : cp M5 p = (2 * mI M p 1).toNat := by unfold cp; rw [rp5, n5, if_pos rfl]
      have il : mI M5 p 1 = mI M p 1 + 1 := by rw [i5, if_pos ⟨rfl, rfl⟩]
      refine ⟨o5, ⟨by rw [k5, if_neg (by omega)]; exact h1, by rw [rp5, k5, if_pos rfl], ⟨by omega, by omega⟩, ⟨by omega, by omega⟩, ⟨by omega, by omega, by omega⟩⟩, ⟨⟨by omega, fun q w => by omega⟩, fun x hx => ⟨by rw [k5, if_neg (by omega)], by rw [n5, if_neg (by omega)]⟩, fun x hx w => ?_, fun x hx w1 w2 _ => ⟨?_, by rw [l5, f2l]; exact l1 x hx⟩, fun q w => Or.inr (by rw [w, rp5]; omega)⟩, il, fun j hj => ?_, ?_, ⟨by omega, by omega⟩, Or.inr (by omega)⟩
      · funext j
        rw [r5, if_neg (fun q => w q.1), f2r, r1 x hx]
      · funext j
        rw [i5, if_neg (fun w => w1 w.1), if_neg (fun w => by have := w.1; omega), f2i x (by omega), i1 x hx]
      · unfold nt
        unfold ln at hj
        rw [rp5, i5, if_neg (fun w => by have := w.1; omega), if_neg (fun w => by have := w.2; omega)]
        exact h2' j (by omega)
      · unfold nt ln
        rw [rp5, i5, if_neg (fun w => by have := w.1; omega), if_pos ⟨rfl, el⟩]
    | succ c ih =>
      intro l M2 hl o2 f2 h2'
      obtain ⟨f2k, f2n, f2r, f2l, f2z, f2s, f2i⟩ := id f2
      have ip : mI M2 p = mI M p := by rw [f2i p (by omega)]; exact i1 p h3
      have rp : mR M2 p 0 = mR M p 0 := by rw [f2r, r1 p h3]
      have ia : mI M2 (mR M p 0) = mI M (mR M p 0) := by rw [f2i _ (by omega)]; exact i1 _ h4
      refine k_MN_add_23 o2 hv ⟨by omega, by omega⟩ ?_
      rw [ip, rp, ia, f2k, f2n, k1, k1, k1, n1, n1, if_neg (show ¬ p = mZ M by omega), if_neg (show ¬ mR M p 0 = mZ M by omega), if_pos rfl, if_neg (show ¬ mR M p 0 = mZ M by omega), if_pos rfl, Int.toNat_natCast]
      refine ⟨h1, fun w => by omega, fun _ => ⟨h2, by omega, rfl, by omega, fun M3 e3 => ?_⟩⟩
      have f3 : FI (fun x => x = mZ M) M2 M3 := by rw [e3]; exact FI.ui rfl
      have o3 : mOk M3 := by rw [e3]; exact mOk_UI o2 (hO _ _).1
      refine ih (l + 1) M3 (by omega) o3 (f2.trans f3) (fun j hj => ?_)
      rw [e3, mI_UI]
      by_cases z : j = l
      · rw [if_pos ⟨rfl, z⟩, z]
      · rw [if_neg (fun w => z w.2)]
        exact h2' j (by omega)
  · have o1 : mOk M1 := by rw [e1]; exact mOk_UI hO hv
    have s1 : mI M1 p 1 = mI M p 1 := by rw [e1, mI_UI, if_neg (fun w => hne w.1)]
    refine ⟨by rw [s1]; exact ⟨by omega, by omega⟩, fun M2 e2 => ?_⟩
    rw [s1] at e2
    have o2 : mOk M2 := by rw [e2]; exact mOk_UI o1 ⟨by omega, by omega⟩
    have k2 : mK M2 = mK M := by rw [e2, e1]; rfl
    have n2 : mN M2 = mN M := by rw [e2, e1]; rfl
    have r2 : mR M2 = mR M := by rw [e2, e1]; rfl
    have l2 : mL M2 = mL M := by rw [e2, e1]; rfl
    have z2 : mZ M2 = mZ M := by rw [e2, e1]; rfl
    have c2 : mS M2 = mS M := by rw [e2, e1]; rfl
    have i2 : ∀ x j, mI M2 x j = if x = p ∧ j = 1 then mI M p 1 + 1 else if x = mR M p 0 ∧ j = (mI M p 1).toNat then v else mI M x j := fun x j => by rw [e2, mI_UI, e1, mI_UI]
    have ec : cp M2 p = cp M p := by unfold cp; rw [n2, r2]
    have il : mI M2 p 1 = mI M p 1 + 1 := by rw [i2, if_pos ⟨rfl, rfl⟩]
    refine ⟨o2, ⟨by rw [k2]; exact h1, by rw [k2, r2]; exact h2, ⟨by omega, by rw [r2]; omega⟩, ⟨by omega, by rw [ec]; omega⟩, by rw [ec]; exact ⟨h6, h7, h8⟩⟩, ⟨⟨by omega, fun q w => by omega⟩, fun x _ => ⟨by rw [k2], by rw [n2]⟩, fun x _ _ => by rw [r2], fun x hx w1 w2 _ => ⟨?_, by rw [l2]⟩, fun q _ => Or.inl (by rw [r2])⟩, il, fun j hj => ?_, ?_, by rw [c2, z2, ec]; omega, Or.inl ec⟩
    · funext j
      rw [i2, if_neg (fun w => w1 w.1), if_neg (fun w => w2 p rfl w.1)]
    · unfold nt
      unfold ln at hj
      rw [r2, i2, if_neg (fun w => hne w.1.symm), if_neg (fun w => by have := w.2; omega)]
    · unfold nt ln
      rw [r2, i2, if_neg (fun w => hne w.1.symm), if_pos ⟨rfl, rfl⟩]
theorem s_MN_add {v : Int} (hv : i32 v) (hO : mOk M) (hN : Nu M p) (hsz : ln M p ≤ 32768) : Cv G y_MN_add d [vr p, vi v] M (adQ M p v) := s_MN_addB (B := 32768) hv hO hN hsz (by decide)
theorem s_MN_at {j : Nat} (hO : mOk M) (hN : Nu M p) (hj : (j : Int) < ln M p) : Ci G y_MN_at d [vr p, vi j] M (fun x M' => M' = M ∧ x = nt M p j) := by
  obtain ⟨h1, h2, -, ⟨h5, h5'⟩, ⟨h6, h7, h8⟩⟩ := id hN
  unfold ln at hj
  have ecp : mN M (mR M p 0) = cp M p := rfl
  refine k_MN_at hO ⟨by omega, by omega⟩ ⟨h1, h2, by omega, rfl, ?_⟩
  rw [Int.toNat_natCast]
  rfl
theorem s_MN_last (hO : mOk M) (hN : Nu M p) (hj : 0 < ln M p) : Ci G y_MN_last d [vr p] M (fun x M' => M' = M ∧ x = nt M p (ln M p - 1).toNat) := by
  obtain ⟨h1, h2, -, ⟨h5, h5'⟩, ⟨h6, h7, h8⟩⟩ := id hN
  unfold ln at hj ⊢
  have ecp : mN M (mR M p 0) = cp M p := rfl
  exact k_MN_last hO ⟨h1, h2, by omega, rfl, rfl⟩
/-- what taking leaves behind -/
def tkQ (M : mM) (p : Nat) (x : Int) (M' : mM) : Prop := mOk M' ∧ Nu M' p ∧ FI (fun y => y = p) M M' ∧ ln M' p = ln M p - 1 ∧ (∀ j, nt M' p j = nt M p j) ∧ x = nt M p (ln M p - 1).toNat
theorem nu_set {M' : mM} {v : Int} (hN : Nu M p) (h0 : 0 ≤ v) (h1 : v ≤ mI M p 1) (e : M' = mUI M p 1 v) : Nu M' p ∧ FI (fun y => y = p) M M' ∧ ln M' p = v ∧ (∀ j, nt M' p j = nt M p j) ∧ cp M' p = cp M p := by
  obtain ⟨g1, g2, g3, ⟨h5, h5'⟩, h6⟩ := id hN
  have f : FI (fun y => y = p) M M' := by rw [e]; exact FI.ui rfl
  have hne : mR M p 0 ≠ p := fun w => by rw [w, g1] at g2; omega
  have er : mR M' p 0 = mR M p 0 := by rw [e]; rfl
  have ec : cp M' p = cp M p := by unfold cp; rw [er, e]; rfl
  have il : mI M' p 1 = v := by rw [e, mI_UI, if_pos ⟨rfl, rfl⟩]
  refine ⟨⟨by rw [f.1]; exact g1, by rw [er, f.1]; exact g2, by rw [er, f.2.2.2.2.1]; exact g3, by rw [il, ec]; omega, by rw [ec]; exact h6⟩, f, il, fun j => ?_, ec⟩
  unfold nt
  rw [er, f.2.2.2.2.2.2 _ hne]
theorem s_MN_take (hO : mOk M) (hN : Nu M p) (hj : 0 < ln M p) : Ci G y_MN_take d [vr p] M (tkQ M p) := by
  obtain ⟨h1, h2, -, ⟨h5, h5'⟩, ⟨h6, h7, h8⟩⟩ := id hN
  unfold ln at hj
  have ecp : mN M (mR M p 0) = cp M p := rfl
  refine k_MN_take hO ⟨h1, ⟨by omega, by omega⟩, fun M1 e1 => ?_⟩
  obtain ⟨a1, a2, a3, a4, a5⟩ := nu_set hN (v := mI M p 1 - 1) (by omega) (by omega) e1
  have o1 : mOk M1 := by rw [e1]; exact mOk_UI hO ⟨by omega, by omega⟩
  have hl : mI M1 p 1 = mI M p 1 - 1 := a3
  have ecp1 : mN M1 (mR M1 p 0) = cp M1 p := rfl
  rw [hl]
  exact ⟨a1.2.1, by omega, o1, a1, a2, a3, a4, (a4 _)⟩
end NU
end
