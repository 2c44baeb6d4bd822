section
section
/-! WHAT METHODS DO: the base. -/
/-- only ints of cells in S differ -/
def FI (S : Nat → Prop) (M M' : mM) : Prop := mK M' = mK M ∧ mN M' = mN M ∧ mR M' = mR M ∧ mL M' = mL M ∧ mZ M' = mZ M ∧ mS M' = mS M ∧ ∀ x, ¬ S x → mI M' x = mI M x
theorem FI.refl {S : Nat → Prop} {M : mM} : FI S M M := ⟨rfl, rfl, rfl, rfl, rfl, rfl, fun _ _ => rfl⟩
theorem FI.trans {S : Nat → Prop} {M M1 M2 : mM} (h : FI S M M1) (k : FI S M1 M2) : FI S M M2 := by
  obtain ⟨h1, h2, h3, h4, h5, h6, h7⟩ := h
  obtain ⟨k1, k2, k3, k4, k5, k6, k7⟩ := k
  exact ⟨k1.trans h1, k2.trans h2, k3.trans h3, k4.trans h4, k5.trans h5, k6.trans h6, fun x hx => (k7 x hx).trans (h7 x hx)⟩
theorem FI.mono {S S' : Nat → Prop} {M M1 : mM} (h : FI S M M1) (hs : ∀ x, S x → S' x) : FI S' M M1 := by
  obtain ⟨h1, h2, h3, h4, h5, h6, h7⟩ := h
  exact ⟨h1, h2, h3, h4, h5, h6, fun x hx => h7 x (fun q => hx (hs x q))⟩
theorem FI.ui {S : Nat → Prop} {M : mM} {a j : Nat} {x : Int} (ha : S a) : FI S M (mUI M a j x) := by
  refine ⟨rfl, rfl, rfl, rfl, rfl, rfl, fun b hb => ?_⟩
  funext k
  rw [mI_UI, if_neg]
  rintro ⟨q, -⟩
  subst q
  exact hb ha
/-- numbers in base 2^24 -/
def dg (f : Nat → Int) : Nat → Int
  | 0 => 0
  | n + 1 => dg f n + f n * 16777216 ^ n
theorem dg_congr {f g : Nat → Int} : ∀ (n : Nat), (∀ j, j < n → f j = g j) → dg f n = dg g n
  | 0, _ => rfl
  | n + 1, h => by rw [dg, dg, dg_congr n (fun j hj => h j (by omega)), h n (by omega)]
theorem B_pos (n : Nat) : (0 : Int) < 16777216 ^ n := Int.pow_pos (by decide)
theorem dg_nonneg {f : Nat → Int} : ∀ (n : Nat), (∀ j, j < n → 0 ≤ f j) → 0 ≤ dg f n
  | 0, _ => Int.le_refl _
  | n + 1, h => by
    have h1 := dg_nonneg n (fun j hj => h j (by omega))
    have h2 := Int.mul_nonneg (h n (by omega)) (Int.le_of_lt (B_pos n))
    rw [dg]
    omega
theorem dg_lt {f : Nat → Int} : ∀ (n : Nat), (∀ j, j < n → f j < 16777216) → dg f n < 16777216 ^ n
  | 0, _ => by show (0 : Int) < 1; decide
  | n + 1, h => by
    have h1 := dg_lt n (fun j hj => h j (by omega))
    have h2 := B_pos n
    have h3 : f n * 16777216 ^ n ≤ 16777215 * 16777216 ^ n := Int.mul_le_mul_of_nonneg_right (by have := h n (by omega); omega) (Int.le_of_lt h2)
    rw [dg, Int.pow_succ]
    omega
def Wh (M : mM) (a r : Nat) : Prop := mK M a = 20 ∧ mR M a 0 = a + 1 ∧ mK M (a + 1) = 30 ∧ mN M (a + 1) = r ∧ r < 100000 ∧ 0 ≤ mI M a 1 ∧ mI M a 1 ≤ r
def WD (M : mM) (a : Nat) : Prop := ∀ j : Nat, (j : Int) < mI M a 1 → 0 ≤ mI M (a + 1) j ∧ mI M (a + 1) j < 16777216
def WT (M : mM) (a : Nat) : Prop := 0 < mI M a 1 → mI M (a + 1) (mI M a 1 - 1).toNat ≠ 0
def wv (M : mM) (a : Nat) : Int := dg (mI M (a + 1)) (mI M a 1).toNat
section WS
variable {G : mG} {d a b r : Nat} {M : mM}
theorem s_MW_at {i : Int} (hO : mOk M) (hi : i32 i) (h0 : 0 ≤ i) (hW : Wh M a r) : Ci G y_MW_at d [vr a, vi i] M (fun x M' => M' = M ∧ x = if mI M a 1 ≤ i then 0 else mI M (a + 1) i.toNat) := by
  obtain ⟨w1, w2, w3, w4, w5, w6, w7⟩ := hW
  refine k_MW_at hO hi ?_
  rw [w2]
  refine ⟨w1, fun hc => ⟨w3, by omega⟩, fun v hv => ⟨rfl, hv⟩⟩
theorem s_MW_isZero (hO : mOk M) (hW : Wh M a r) : Ci G y_MW_isZero d [vr a] M (fun x M' => M' = M ∧ x = if mI M a 1 = 0 then 1 else 0) := by
  refine k_MW_isZero hO ⟨hW.1, fun v hv => ⟨rfl, hv⟩⟩
theorem s_MW_trim (n : Nat) : ∀ (M : mM), mOk M → Wh M a r → WD M a → mI M a 1 = n → Cv G y_MW_trim d [vr a] M (fun M' => mOk M' ∧ FI (fun x => x = a) M M' ∧ Wh M' a r ∧ WD M' a ∧ WT M' a ∧ wv M' a = wv M a) := by
  intro M hO hW hD hn
  refine k_MW_trim hO ?_
  suffices H : ∀ (n : Nat) (M1 : mM), mOk M1 → Wh M1 a r → WD M1 a → mI M1 a 1 = n → FI (fun x => x = a) M M1 → wv M1 a = wv M a → h_MW_trim_0 G d a M1 (fun M' => mOk M' ∧ FI (fun x => x = a) M M' ∧ Wh M' a r ∧ WD M' a ∧ WT M' a ∧ wv M' a = wv M a) from H n M hO hW hD hn FI.refl rfl
  intro n
  induction n with
  | zero =>
    intro M1 hO hW hD hn hF hv
    obtain ⟨w1, w2, w3, w4, w5, w6, w7⟩ := hW
    refine k_MW_trim_0 hO ?_
    rw [w2]
    refine ⟨w1, fun hc => by omega, fun hc => ⟨hO, hF, ⟨w1, w2, w3, w4, w5, w6, w7⟩, hD, fun q => by omega, hv⟩, fun hc => absurd (Or.inl (by omega)) hc⟩
  | succ n ih =>
    intro M1 hO hW hD hn hF hv
    obtain ⟨w1, w2, w3, w4, w5, w6, w7⟩ := hW
    refine k_MW_trim_0 hO ?_
    rw [w2]
    refine ⟨w1, fun hc => ⟨w3, by omega⟩, fun hc => ?_, fun hc => ?_⟩
    · refine ⟨hO, hF, ⟨w1, w2, w3, w4, w5, w6, w7⟩, hD, fun q => ?_, hv⟩
      rcases hc with hc | hc
      · omega
      · exact hc
    · refine ⟨⟨by omega, by omega⟩, fun M2 e2 => ?_⟩
      have hz : mI M1 (a + 1) (mI M1 a 1 - 1).toNat = 0 := Classical.not_not.mp (fun q => hc (Or.inr q))
      have e1 : mI M2 a 1 = n := by rw [e2, mI_UI, if_pos ⟨rfl, rfl⟩]; omega
      have e3 : ∀ j, mI M2 (a + 1) j = mI M1 (a + 1) j := fun j => by rw [e2, mI_UI, if_neg (by omega)]
      have hO2 : mOk M2 := by rw [e2]; exact mOk_UI hO ⟨by omega, by omega⟩
      have hF2 : FI (fun x => x = a) M1 M2 := by rw [e2]; exact FI.ui rfl
      refine ih M2 hO2 ⟨by rw [hF2.1]; exact w1, by rw [hF2.2.2.1]; exact w2, by rw [hF2.1]; exact w3, by rw [hF2.2.1]; exact w4, w5, by omega, by omega⟩ (fun j hj => by rw [e3]; exact hD j (by omega)) e1 (hF.trans hF2) ?_
      rw [← hv]
      unfold wv
      rw [e1, hn, dg_congr _ (fun j _ => e3 j)]
      show dg _ n = dg _ (n + 1)
      rw [dg, show (n : Nat) = (mI M1 a 1 - 1).toNat by first | rfl | omega, hz]
      omega
end WS
end
section
/-! The reference's whole numbers. -/
def W3 (M : mM) (a r : Nat) : Prop := Wh M a r ∧ WD M a ∧ WT M a
theorem Wh.fi {S : Nat → Prop} {M M' : mM} {a r : Nat} (h : Wh M a r) (f : FI S M M') (h0 : 0 ≤ mI M' a 1) (h1 : mI M' a 1 ≤ r) : Wh M' a r := by
  obtain ⟨w1, w2, w3, w4, w5, w6, w7⟩ := h
  exact ⟨by rw [f.1]; exact w1, by rw [f.2.2.1]; exact w2, by rw [f.1]; exact w3, by rw [f.2.1]; exact w4, w5, h0, h1⟩
theorem W3.out {S : Nat → Prop} {M M' : mM} {a r : Nat} (h : W3 M a r) (f : FI S M M') (h0 : ¬ S a) (h1 : ¬ S (a + 1)) : W3 M' a r ∧ wv M' a = wv M a := by
  obtain ⟨w, wd, wt⟩ := h
  have e0 := f.2.2.2.2.2.2 a h0
  have e1 := f.2.2.2.2.2.2 (a + 1) h1
  refine ⟨⟨w.fi f (by rw [e0]; exact w.2.2.2.2.2.1) (by rw [e0]; exact w.2.2.2.2.2.2), ?_, ?_⟩, ?_⟩
  · intro j hj
    rw [e0] at hj
    rw [e1]
    exact wd j hj
  · intro q
    rw [e0] at q ⊢
    rw [e1]
    exact wt q
  · unfold wv
    rw [e0, e1]
theorem Wh.out {S : Nat → Prop} {M M' : mM} {a r : Nat} (h : Wh M a r) (f : FI S M M') (h0 : ¬ S a) : Wh M' a r := by
  have e0 := f.2.2.2.2.2.2 a h0
  exact h.fi f (by rw [e0]; exact h.2.2.2.2.2.1) (by rw [e0]; exact h.2.2.2.2.2.2)
theorem W3.nonneg {M : mM} {a r : Nat} (h : W3 M a r) : 0 ≤ wv M a := dg_nonneg _ (fun j hj => (h.2.1 j (by have := h.1.2.2.2.2.2.1; omega)).1)
theorem W3.lt {M : mM} {a r : Nat} (h : W3 M a r) : wv M a < 16777216 ^ (mI M a 1).toNat := dg_lt _ (fun j hj => (h.2.1 j (by have := h.1.2.2.2.2.2.1; omega)).2)
theorem W3.ge {M : mM} {a r : Nat} (h : W3 M a r) (hn : 0 < mI M a 1) : 16777216 ^ ((mI M a 1).toNat - 1) ≤ wv M a := by
  have h1 := h.2.2 hn
  have h2 := h.2.1 (mI M a 1 - 1).toNat (by omega)
  obtain ⟨k, hk⟩ : ∃ k, (mI M a 1).toNat = k + 1 := ⟨(mI M a 1).toNat - 1, by omega⟩
  unfold wv
  rw [hk, dg]
  rw [show (mI M a 1 - 1).toNat = k by first | rfl | omega] at h1 h2
  have h3 := dg_nonneg (f := mI M (a + 1)) k (fun j hj => (h.2.1 j (by omega)).1)
  have h4 : 1 * 16777216 ^ k ≤ mI M (a + 1) k * 16777216 ^ k := Int.mul_le_mul_of_nonneg_right (by omega) (Int.le_of_lt (B_pos k))
  rw [show k + 1 - 1 = k by first | rfl | omega]
  omega
theorem pow_mono {m n : Nat} (h : m ≤ n) : (16777216 : Int) ^ m ≤ 16777216 ^ n := by
  obtain ⟨k, rfl⟩ := Nat.le.dest h
  rw [Int.pow_add]
  have h1 := B_pos m
  have h2 := B_pos k
  have : (16777216 : Int) ^ m * 1 ≤ 16777216 ^ m * 16777216 ^ k := Int.mul_le_mul_of_nonneg_left (by omega) (Int.le_of_lt h1)
  omega
/-- as many places as the number needs -/
theorem W3.size {M : mM} {a r k : Nat} (h : W3 M a r) (hv : wv M a < 16777216 ^ k) : mI M a 1 ≤ k := by
  have h0 := h.1.2.2.2.2.2.1
  refine Classical.not_not.mp (fun q => ?_)
  have h1 := h.ge (by omega)
  have h2 := pow_mono (m := k) (n := (mI M a 1).toNat - 1) (by omega)
  omega
theorem W3.zero {M : mM} {a r : Nat} (h : W3 M a r) : mI M a 1 = 0 ↔ wv M a = 0 := by
  have h0 := h.1.2.2.2.2.2.1
  constructor
  · intro q
    unfold wv
    rw [q]
    rfl
  · intro q
    refine Classical.not_not.mp (fun z => ?_)
    have h1 := h.ge (by omega)
    have h2 := B_pos ((mI M a 1).toNat - 1)
    omega
theorem l_and24 {x : Int} (h : 0 ≤ x) (h2 : x < 9223372036854775808) : andL x 16777215 = x % 16777216 := by
  obtain ⟨n, rfl⟩ := Int.eq_ofNat_of_zero_le h
  unfold andL
  have e : Int64.ofInt (n : Int) = lN n := rfl
  have e2 : Int64.ofInt 16777215 = lN (2 ^ 24 - 1) := by decide
  rw [e, e2]
  have hn : n < 2 ^ 63 := by omega
  have : (lN n &&& lN (2 ^ 24 - 1)) = lN (n % 2 ^ 24) := by
    apply Int64.toBitVec_inj.mp
    show BitVec.ofNat 64 n &&& BitVec.ofNat 64 (2 ^ 24 - 1) = BitVec.ofNat 64 (n % 2 ^ 24)
    apply BitVec.eq_of_toNat_eq
    simp only [BitVec.toNat_and, BitVec.toNat_ofNat]
    rw [Nat.mod_eq_of_lt (show n < 2 ^ 64 by omega), Nat.mod_eq_of_lt (show 2 ^ 24 - 1 < 2 ^ 64 by decide), Nat.and_two_pow_sub_one_eq_mod, Nat.mod_eq_of_lt (show n % 2 ^ 24 < 2 ^ 64 by omega)]
  rw [this, pk_lT (by omega)]
  omega
theorem l_shr {x : Int} (k : Nat) (hk : k < 64) (h : i64 x) : shrL x k = x / 2 ^ k := by
  unfold shrL
  have e : ((Int32.ofInt (k : Int)).toInt64 &&& 63) = lN k := by
    have : ∀ k, k < 64 → (((Int32.ofInt ((k : Nat) : Int)).toInt64 &&& 63) = lN k) := by decide
    exact this k hk
  rw [e]
  have e2 : ∀ k, k < 64 → ((lN k).toBitVec.smod 64).toNat = k := by decide
  show ((Int64.ofInt x).toBitVec.sshiftRight ((lN k).toBitVec.smod 64).toNat).toInt = _
  rw [e2 k hk, BitVec.toInt_sshiftRight, show (Int64.ofInt x).toBitVec.toInt = x from i64_toInt h, Int.shiftRight_eq_div_pow]
  norm_cast
section W2
variable {G : mG} {d a b r r2 : Nat} {M : mM}
theorem s_MW_isOne (hO : mOk M) (hW : W3 M a r) : Ci G y_MW_isOne d [vr a] M (fun x M' => M' = M ∧ x = if wv M a = 1 then 1 else 0) := by
  have hsz := hW.size (k := 1)
  obtain ⟨⟨w1, w2, w3, w4, w5, w6, w7⟩, wd, wt⟩ := hW
  refine k_MW_isOne hO ?_
  rw [w2]
  refine ⟨w1, fun hc => ⟨w3, by omega, by omega⟩, fun v hv => ⟨rfl, ?_⟩⟩
  rw [hv]
  by_cases q : mI M a 1 = 1
  · have : wv M a = mI M (a + 1) 0 := by
      unfold wv
      rw [q]
      show dg _ 1 = _
      simp [dg]
    rw [this]
    simp [q]
  · rw [if_neg (fun z => q z.1), if_neg]
    intro z
    have h1 := hsz (by rw [z]; decide)
    have h2 : mI M a 1 = 0 := by omega
    unfold wv at z
    rw [h2] at z
    exact absurd z (by show ¬ (0 : Int) = 1; decide)
theorem s_MW_isOdd (hO : mOk M) (hW : W3 M a r) : Ci G y_MW_isOdd d [vr a] M (fun x M' => M' = M ∧ x = if wv M a % 2 = 1 then 1 else 0) := by
  obtain ⟨⟨w1, w2, w3, w4, w5, w6, w7⟩, wd, wt⟩ := hW
  refine k_MW_isOdd hO ?_
  rw [w2]
  refine ⟨w1, fun hc => ⟨w3, by omega, by omega⟩, fun v hv => ⟨rfl, ?_⟩⟩
  rw [hv]
  by_cases q : mI M a 1 ≤ 0
  · have : wv M a = 0 := by
      unfold wv
      rw [show (mI M a 1).toNat = 0 by first | rfl | omega]
      rfl
    rw [if_pos (Or.inl q), this]
    rfl
  · have hd := wd 0 (by omega)
    have key : ∀ n, 0 < n → dg (mI M (a + 1)) n % 2 = mI M (a + 1) 0 % 2 := by
      intro n
      induction n with
      | zero => omega
      | succ n ih =>
        intro _
        by_cases hn : n = 0
        · subst hn; simp [dg]
        · have h1 := ih (by omega)
          rw [dg]
          obtain ⟨k, rfl⟩ : ∃ k, n = k + 1 := ⟨n - 1, by omega⟩
          rw [Int.pow_succ, show mI M (a + 1) (k + 1) * (16777216 ^ k * 16777216) = 2 * (mI M (a + 1) (k + 1) * 16777216 ^ k * 8388608) by rw [← Int.mul_assoc]; omega]
          omega
    have h1 := key (mI M a 1).toNat (by omega)
    unfold wv
    rw [h1, Int.tmod_eq_emod_of_nonneg hd.1]
    by_cases z : mI M (a + 1) 0 % 2 = 1
    · rw [if_neg (by intro w; rcases w with w | w; exact q w; exact w z), if_pos z]
    · rw [if_pos (Or.inr z), if_neg z]
/-- another one's digits -/
theorem s_MW_copy (hO : mOk M) (hA : Wh M a r) (hB : W3 M b r2) (hne : a ≠ b) (hr : mI M b 1 ≤ r) : Cv G y_MW_copy d [vr a, vr b] M (fun M' => mOk M' ∧ FI (fun x => x = a ∨ x = a + 1) M M' ∧ W3 M' a r ∧ wv M' a = wv M b) := by
  have hB0 := hB
  obtain ⟨⟨v1, v2, v3, v4, v5, v6, v7⟩, vd, vt⟩ := hB
  have hA0 := hA
  obtain ⟨w1, w2, w3, w4, w5, w6, w7⟩ := hA
  have hab : a ≠ b + 1 := fun q => by rw [← q, w1] at v3; omega
  have hba : a + 1 ≠ b := fun q => by rw [q, v1] at w3; omega
  refine k_MW_copy hO ⟨v1, w1, fun M3 e3 => ?_⟩
  have hO3 : mOk M3 := by rw [e3]; exact mOk_UI hO (hO b 1).1
  have hF3 : FI (fun x => x = a ∨ x = a + 1) M M3 := by rw [e3]; exact FI.ui (Or.inl rfl)
  have hn3 : mI M3 a 1 = mI M b 1 := by rw [e3, mI_UI, if_pos ⟨rfl, rfl⟩]
  suffices H : ∀ (k : Nat) (i : Int) (M1 : mM), 0 ≤ i → i ≤ mI M b 1 → mI M b 1 - i = k → mOk M1 → FI (fun x => x = a ∨ x = a + 1) M M1 → mI M1 a 1 = mI M b 1 → (∀ j : Nat, (j : Int) < i → mI M1 (a + 1) j = mI M (b + 1) j) → h_MW_copy_10 G d a b i M1 (fun M' => mOk M' ∧ FI (fun x => x = a ∨ x = a + 1) M M' ∧ W3 M' a r ∧ wv M' a = wv M b) from
    H (mI M b 1).toNat 0 M3 (by omega) (by omega) (by omega) hO3 hF3 hn3 (fun j hj => by omega)
  intro k
  induction k with
  | zero =>
    intro i M1 h0 h1 hk hO1 hF1 hn hj
    have hW1 := hA0.fi hF1 (by omega) (by omega)
    refine k_MW_copy_10 hO1 ⟨by omega, by omega⟩ ?_
    rw [hW1.2.1, hn]
    refine ⟨hW1.1, fun hc => ⟨hO1, hF1, ⟨hW1, fun j q => ?_, fun q => ?_⟩, ?_⟩, fun hc => by omega⟩
    · rw [hn] at q
      rw [hj j (by omega)]
      exact vd j q
    · rw [hn] at q ⊢
      rw [hj _ (by omega)]
      exact vt q
    · unfold wv
      rw [hn]
      exact dg_congr _ (fun j q => hj j (by omega))
  | succ k ih =>
    intro i M1 h0 h1 hk hO1 hF1 hn hj
    have hW1 := hA0.fi hF1 (by omega) (by omega)
    have hB1 := hB0.out hF1 (by omega) (by omega)
    have eb : mI M1 (b + 1) = mI M (b + 1) := hF1.2.2.2.2.2.2 _ (by omega)
    refine k_MW_copy_10 hO1 ⟨by omega, by omega⟩ ?_
    rw [hW1.2.1, hn, hB1.1.1.2.1, hB1.1.1.2.2.2.1, hW1.2.2.2.1]
    refine ⟨hW1.1, fun hc => by omega, fun hc => ⟨hB1.1.1.1, hB1.1.1.2.2.1, by omega, hW1.2.2.1, by omega, fun M2 e2 => ?_⟩⟩
    have hF2 : FI (fun x => x = a ∨ x = a + 1) M1 M2 := by rw [e2]; exact FI.ui (Or.inr rfl)
    refine ih (i + 1) M2 (by omega) (by omega) (by omega) (by rw [e2]; exact mOk_UI hO1 (hO1 _ _).1) (hF1.trans hF2) (by rw [e2, mI_UI, if_neg (by omega)]; exact hn) (fun j q => ?_)
    rw [e2, mI_UI]
    by_cases z : j = i.toNat
    · rw [if_pos ⟨rfl, z⟩, eb, z]
    · rw [if_neg (fun w => z w.2)]
      exact hj j (by omega)
end W2
end
section
/-! The reference's whole numbers: order, sums, products. -/
/-- the first digits that differ, from above, decide -/
theorem dg_cmp {f g : Nat → Int} {n i : Nat} (hi : i < n) (hf : ∀ j, j < n → 0 ≤ f j ∧ f j < 16777216) (hg : ∀ j, j < n → 0 ≤ g j ∧ g j < 16777216) (he : ∀ j, i < j → j < n → f j = g j) (hl : f i < g i) : dg f n < dg g n := by
  induction n with
  | zero => omega
  | succ n ih =>
    by_cases q : i = n
    · subst q
      have h1 := dg_lt (f := f) i (fun j hj => (hf j (by omega)).2)
      have h2 := dg_nonneg (f := g) i (fun j hj => (hg j (by omega)).1)
      have h3 : (f i + 1) * 16777216 ^ i ≤ g i * 16777216 ^ i := Int.mul_le_mul_of_nonneg_right (by omega) (Int.le_of_lt (B_pos i))
      rw [Int.add_mul] at h3
      rw [dg, dg]
      omega
    · have h1 := ih (by omega) (fun j hj => hf j (by omega)) (fun j hj => hg j (by omega)) (fun j q1 q2 => he j q1 (by omega))
      rw [dg, dg, he n (by omega) (by omega)]
      omega
section W4
variable {G : mG} {d a b c r r2 r3 : Nat} {M : mM}
theorem s_MW_compare (hO : mOk M) (hA : W3 M a r) (hB : W3 M b r2) : Ci G y_MW_compare d [vr a, vr b] M (fun x M' => M' = M ∧ x = if wv M a < wv M b then -1 else if wv M a = wv M b then 0 else 1) := by
  have hA0 := hA
  have hB0 := hB
  obtain ⟨⟨w1, w2, w3, w4, w5, w6, w7⟩, wd, wt⟩ := hA
  obtain ⟨⟨v1, v2, v3, v4, v5, v6, v7⟩, vd, vt⟩ := hB
  refine k_MW_compare hO ⟨w1, v1, fun hc => ?_, fun hc v hv => ⟨rfl, ?_⟩⟩
  · suffices H : ∀ (k : Nat) (i : Int), i + 1 = k → i < mI M a 1 → (∀ j : Nat, i < (j : Int) → (j : Int) < mI M a 1 → mI M (a + 1) j = mI M (b + 1) j) → h_MW_compare_35 G d a b i M (fun x M' => M' = M ∧ x = if wv M a < wv M b then -1 else if wv M a = wv M b then 0 else 1) from
      H (mI M a 1).toNat (mI M a 1 - 1) (by omega) (by omega) (fun j q1 q2 => by omega)
    intro k
    induction k with
    | zero =>
      intro i hk hi hj
      refine k_MW_compare_35 hO ⟨by omega, by omega⟩ ?_
      rw [w2, v2]
      refine ⟨fun q => by omega, fun q => ⟨fun z => by omega, fun v hv => ⟨rfl, ?_⟩⟩, fun q => absurd (Or.inl (by omega)) q⟩
      have e : wv M a = wv M b := by
        unfold wv
        rw [hc]
        exact dg_congr _ (fun j q => hj j (by omega) (by omega))
      rw [hv, e, if_neg (by omega), if_neg (by omega), if_pos rfl]
    | succ k ih =>
      intro i hk hi hj
      have hki : i = k := by omega
      refine k_MW_compare_35 hO ⟨by omega, by omega⟩ ?_
      rw [w2, v2, w4, v4]
      refine ⟨fun q => ⟨w1, w3, by omega, v1, v3, by omega⟩, fun q => ⟨fun z => ⟨w1, w3, by omega, v1, v3, by omega⟩, fun v hv => ⟨rfl, ?_⟩⟩, fun q => ?_⟩
      · have hne : mI M (a + 1) i.toNat ≠ mI M (b + 1) i.toNat := by
          rcases q with q | q
          · omega
          · exact q
        rw [hv, if_pos (by omega)]
        have hnat : (mI M b 1).toNat = (mI M a 1).toNat := by rw [hc]
        by_cases z : mI M (b + 1) i.toNat ≤ mI M (a + 1) i.toNat
        · have := dg_cmp (f := mI M (b + 1)) (g := mI M (a + 1)) (n := (mI M a 1).toNat) (i := i.toNat) (by omega) (fun j q => vd j (by omega)) (fun j q => wd j (by omega)) (fun j q1 q2 => (hj j (by omega) (by omega)).symm) (by omega)
          unfold wv
          rw [if_pos z, hnat, if_neg (by omega), if_neg (by omega)]
        · have := dg_cmp (f := mI M (a + 1)) (g := mI M (b + 1)) (n := (mI M a 1).toNat) (i := i.toNat) (by omega) (fun j q => wd j (by omega)) (fun j q => vd j (by omega)) (fun j q1 q2 => hj j (by omega) (by omega)) (by omega)
          unfold wv
          rw [if_neg z, hnat, if_pos (by omega)]
      · have he : mI M (a + 1) i.toNat = mI M (b + 1) i.toNat := Classical.not_not.mp (fun z => q (Or.inr z))
        refine ih (i + -1) (by omega) (by omega) (fun j q1 q2 => ?_)
        by_cases z : (j : Int) = i
        · rw [show j = i.toNat by first | rfl | omega]; exact he
        · exact hj j (by omega) q2
  · rw [hv]
    by_cases z : mI M b 1 ≤ mI M a 1
    · have h1 := hA0.ge (by omega)
      have h2 := hB0.lt
      have h3 := pow_mono (m := (mI M b 1).toNat) (n := (mI M a 1).toNat - 1) (by omega)
      rw [if_pos z, if_neg (by omega), if_neg (by omega)]
    · have h1 := hB0.ge (by omega)
      have h2 := hA0.lt
      have h3 := pow_mono (m := (mI M a 1).toNat) (n := (mI M b 1).toNat - 1) (by omega)
      rw [if_neg z, if_pos (by omega)]
/-- a digit, 0 beyond the number -/
def wg (M : mM) (a : Nat) (i : Nat) : Int := if mI M a 1 ≤ (i : Int) then 0 else mI M (a + 1) i
theorem dg_wg {M : mM} {a n : Nat} (h0 : 0 ≤ mI M a 1) (hn : (mI M a 1).toNat ≤ n) : dg (wg M a) n = wv M a := by
  obtain ⟨k, rfl⟩ := Nat.le.dest hn
  induction k with
  | zero =>
    unfold wv
    exact dg_congr _ (fun j hj => by unfold wg; rw [if_neg (by omega)])
  | succ k ih =>
    show dg (wg M a) ((mI M a 1).toNat + k + 1) = _
    rw [dg, ih (by omega), show wg M a ((mI M a 1).toNat + k) = 0 by unfold wg; rw [if_pos (by omega)]]
    omega
theorem W3.wgb {M : mM} {a r : Nat} (h : W3 M a r) (i : Nat) : 0 ≤ wg M a i ∧ wg M a i < 16777216 := by
  unfold wg
  split
  · omega
  · exact h.2.1 i (by omega)
theorem s_MW_add (hO : mOk M) (hA : W3 M a r) (hB : W3 M b r2) (hne : a ≠ b) (hr : mI M a 1 < r ∧ mI M b 1 < r) : Cv G y_MW_add (d + 1) [vr a, vr b] M (fun M' => mOk M' ∧ FI (fun x => x = a ∨ x = a + 1) M M' ∧ W3 M' a r ∧ wv M' a = wv M a + wv M b) := by
  have hA0 := hA
  have hB0 := hB
  obtain ⟨⟨w1, w2, w3, w4, w5, w6, w7⟩, wd, wt⟩ := hA
  obtain ⟨⟨v1, v2, v3, v4, v5, v6, v7⟩, vd, vt⟩ := hB
  have hab : a ≠ b + 1 := fun q => by rw [← q, w1] at v3; omega
  have hba : a + 1 ≠ b := fun q => by rw [q, v1] at w3; omega
  refine k_MW_add hO ⟨w1, v1, fun n hn => ?_⟩
  have hn1 : mI M a 1 ≤ n ∧ mI M b 1 ≤ n ∧ n < r ∧ (n = mI M a 1 ∨ n = mI M b 1) := by rw [hn]; split <;> omega
  suffices H : ∀ (k : Nat) (i cy : Int) (M1 : mM), 0 ≤ i → n - i = k → 0 ≤ cy → cy ≤ 1 → mOk M1 → FI (fun x => x = a + 1) M M1 → (∀ j : Nat, (j : Int) < i → 0 ≤ mI M1 (a + 1) j ∧ mI M1 (a + 1) j < 16777216) → (∀ j : Nat, i ≤ (j : Int) → mI M1 (a + 1) j = mI M (a + 1) j) → dg (mI M1 (a + 1)) i.toNat + cy * 16777216 ^ i.toNat = dg (wg M a) i.toNat + dg (wg M b) i.toNat → h_MW_add_28 G d a b n cy i M1 (fun M' => mOk M' ∧ FI (fun x => x = a ∨ x = a + 1) M M' ∧ W3 M' a r ∧ wv M' a = wv M a + wv M b) from
    H n.toNat 0 0 M (by omega) (by omega) (by omega) (by omega) hO FI.refl (fun j hj => by omega) (fun j hj => rfl) (by simp [dg])
  intro k
  induction k with
  | zero =>
    intro i cy M1 h0 hk hc0 hc1 hO1 hF1 hd1 he1 hv1
    have hi : i = n := by omega
    have hF1' : FI (fun x => x = a ∨ x = a + 1) M M1 := hF1.mono (fun x q => Or.inr q)
    have hW1 : Wh M1 a r := hA0.1.out hF1 (by omega)
    have ea : mI M1 a = mI M a := hF1.2.2.2.2.2.2 _ (by omega)
    refine k_MW_add_28 hO1 ⟨by omega, by omega⟩ ⟨by omega, by omega⟩ ⟨by omega, by omega⟩ ⟨fun hc => ⟨hW1.1, fun M3 e3 => ⟨fun q => ?_, fun q => ?_⟩⟩, fun hc => by omega⟩
    · -- no carry
      have hcy : cy = 0 := by omega
      have hF3 : FI (fun x => x = a ∨ x = a + 1) M1 M3 := by rw [e3]; exact FI.ui (Or.inl rfl)
      have e1 : mI M3 a 1 = n := by rw [e3, mI_UI, if_pos ⟨rfl, rfl⟩]
      have e2 : ∀ j, mI M3 (a + 1) j = mI M1 (a + 1) j := fun j => by rw [e3, mI_UI, if_neg (by omega)]
      have hval : wv M3 a = wv M a + wv M b := by
        unfold wv
        rw [e1, dg_congr _ (fun j _ => e2 j)]
        rw [hcy, hi, dg_wg w6 (by omega), dg_wg v6 (by omega)] at hv1
        unfold wv at hv1
        omega
      refine ⟨by rw [e3]; exact mOk_UI hO1 ⟨by omega, by omega⟩, hF1'.trans hF3, ⟨hW1.fi hF3 (by omega) (by omega), fun j hj => ?_, fun z => ?_⟩, hval⟩
      · rw [e2]; exact hd1 j (by omega)
      · -- the highest digit
        rw [e1] at z ⊢
        rw [e2]
        intro hz0
        have hlt : wv M3 a < 16777216 ^ (n.toNat - 1) := by
          unfold wv
          obtain ⟨m, hm⟩ : ∃ m, n.toNat = m + 1 := ⟨n.toNat - 1, by omega⟩
          rw [e1, hm, dg, e2 m, show m = (n - 1).toNat by first | rfl | omega, hz0]
          have := dg_lt (f := mI M3 (a + 1)) (n - 1).toNat (fun j hj => by rw [e2]; exact (hd1 j (by omega)).2)
          rw [show (n - 1).toNat + 1 - 1 = (n - 1).toNat by first | rfl | omega]
          omega
        have n1 := hA0.nonneg
        have n2 := hB0.nonneg
        rcases hn1.2.2.2 with q9 | q9
        · have := hA0.ge (by omega)
          rw [← q9] at this
          omega
        · have := hB0.ge (by omega)
          rw [← q9] at this
          omega
    · have hcy : cy = 1 := by omega
      have hF3 : FI (fun x => x = a ∨ x = a + 1) M1 M3 := by rw [e3]; exact FI.ui (Or.inl rfl)
      have e1 : mI M3 a 1 = n := by rw [e3, mI_UI, if_pos ⟨rfl, rfl⟩]
      have e2 : ∀ j, mI M3 (a + 1) j = mI M1 (a + 1) j := fun j => by rw [e3, mI_UI, if_neg (by omega)]
      have hO3 : mOk M3 := by rw [e3]; exact mOk_UI hO1 ⟨by omega, by omega⟩
      have hW3 : Wh M3 a r := hW1.fi hF3 (by omega) (by omega)
      rw [hW3.2.1, hW3.2.2.2.1, e1]
      refine ⟨hW3.2.2.1, by omega, fun M4 e4 => ?_⟩
      have f1 : mI M4 a 1 = n := by rw [e4, mI_UI, if_neg (by omega)]; exact e1
      rw [f1]
      refine ⟨⟨by omega, by omega⟩, fun M5 e5 => ?_⟩
      have hF4 : FI (fun x => x = a ∨ x = a + 1) M3 M4 := by rw [e4]; exact FI.ui (Or.inr rfl)
      have hF5 : FI (fun x => x = a ∨ x = a + 1) M4 M5 := by rw [e5]; exact FI.ui (Or.inl rfl)
      have hF : FI (fun x => x = a ∨ x = a + 1) M1 M5 := (hF3.trans hF4).trans hF5
      have g1 : mI M5 a 1 = n + 1 := by rw [e5, mI_UI, if_pos ⟨rfl, rfl⟩]
      have g2 : ∀ j, mI M5 (a + 1) j = if j = n.toNat then cy else mI M1 (a + 1) j := fun j => by
        rw [e5, mI_UI, if_neg (by omega), e4, mI_UI]
        by_cases z : j = n.toNat
        · rw [if_pos ⟨rfl, z⟩, if_pos z]
        · rw [if_neg (fun w => z w.2), if_neg z, e2]
      have hO4 : mOk M4 := by rw [e4]; exact mOk_UI hO3 ⟨by omega, by omega⟩
      refine ⟨by rw [e5]; exact mOk_UI hO4 ⟨by omega, by omega⟩, hF1'.trans hF, ⟨hW1.fi hF (by omega) (by omega), fun j hj => ?_, fun z => ?_⟩, ?_⟩
      · rw [g2]
        split
        · omega
        · exact hd1 j (by omega)
      · rw [g1, g2, if_pos (by omega)]
        omega
      · unfold wv
        rw [g1, show (n + 1).toNat = n.toNat + 1 by first | rfl | omega, dg, g2, if_pos rfl, dg_congr (g := mI M1 (a + 1)) _ (fun j hj => by rw [g2, if_neg (by omega)])]
        rw [hi, dg_wg w6 (by omega), dg_wg v6 (by omega)] at hv1
        unfold wv at hv1
        omega
  | succ k ih =>
    intro i cy M1 h0 hk hc0 hc1 hO1 hF1 hd1 he1 hv1
    have hW1 : Wh M1 a r := hA0.1.out hF1 (by omega)
    have hB1 := hB0.out hF1 (by omega) (by omega)
    have ea : mI M1 a = mI M a := hF1.2.2.2.2.2.2 _ (by omega)
    have eb : mI M1 b = mI M b := hF1.2.2.2.2.2.2 _ (by omega)
    have eb1 : mI M1 (b + 1) = mI M (b + 1) := hF1.2.2.2.2.2.2 _ (by omega)
    refine k_MW_add_28 hO1 ⟨by omega, by omega⟩ ⟨by omega, by omega⟩ ⟨by omega, by omega⟩ ⟨fun hc => by omega, fun hc => ⟨hW1.1, ?_⟩⟩
    refine (s_MW_at hO1 ⟨by omega, by omega⟩ h0 hW1).mono (fun x M2 hx => ?_)
    obtain ⟨rfl, hx⟩ := hx
    have hx' : x = wg M a i.toNat := by
      rw [hx, ea, he1 _ (by omega)]
      unfold wg
      rw [show ((i.toNat : Nat) : Int) = i by first | rfl | omega]
    have hxb := hA0.wgb i.toNat
    refine ⟨⟨by omega, by omega⟩, hO1, hB1.1.1.1, ?_⟩
    refine (s_MW_at hO1 ⟨by omega, by omega⟩ h0 hB1.1.1).mono (fun z M3 hz => ?_)
    obtain ⟨rfl, hz⟩ := hz
    have hz' : z = wg M b i.toNat := by
      rw [hz, eb, eb1]
      unfold wg
      rw [show ((i.toNat : Nat) : Int) = i by first | rfl | omega]
    have hzb := hB0.wgb i.toNat
    rw [hW1.2.1, hW1.2.2.2.1]
    refine ⟨⟨by omega, by omega⟩, hO1, hW1.1, ⟨by omega, by omega⟩, hW1.2.2.1, by omega, fun M4 e4 => ?_⟩
    have hs0 : 0 ≤ x + z + cy := by omega
    have hm := Int.emod_nonneg (x + z + cy) (show (16777216 : Int) ≠ 0 by decide)
    have hm2 := Int.emod_lt_of_pos (x + z + cy) (show (0 : Int) < 16777216 by decide)
    have hdm := Int.emod_add_mul_ediv (x + z + cy) 16777216
    rw [Int.tmod_eq_emod_of_nonneg hs0] at e4
    rw [Int.tdiv_eq_ediv_of_nonneg hs0]
    have hF4 : FI (fun x => x = a + 1) M3 M4 := by rw [e4]; exact FI.ui rfl
    have g2 : ∀ j, mI M4 (a + 1) j = if j = i.toNat then (x + z + cy) % 16777216 else mI M3 (a + 1) j := fun j => by
      rw [e4, mI_UI]
      by_cases z : j = i.toNat
      · rw [if_pos ⟨rfl, z⟩, if_pos z]
      · rw [if_neg (fun w => z w.2), if_neg z]
    refine ih (i + 1) _ M4 (by omega) (by omega) (by omega) (by omega) (by rw [e4]; exact mOk_UI hO1 ⟨by omega, by omega⟩) (hF1.trans hF4) (fun j hj => ?_) (fun j hj => ?_) ?_
    · rw [g2]
      split
      · omega
      · exact hd1 j (by omega)
    · rw [g2, if_neg (by omega)]
      exact he1 j (by omega)
    · rw [show (i + 1).toNat = i.toNat + 1 by first | rfl | omega, dg, dg, dg, g2, if_pos rfl, dg_congr (g := mI M3 (a + 1)) _ (fun j hj => by rw [g2, if_neg (by omega)]), ← hx', ← hz', Int.pow_succ]
      have e9 : (x + z + cy) * 16777216 ^ i.toNat = ((x + z + cy) % 16777216 + 16777216 * ((x + z + cy) / 16777216)) * 16777216 ^ i.toNat := by rw [hdm]
      rw [Int.add_mul, Int.add_mul, Int.add_mul] at e9
      rw [show (x + z + cy) / 16777216 * (16777216 ^ i.toNat * 16777216) = 16777216 * ((x + z + cy) / 16777216) * 16777216 ^ i.toNat by rw [Int.mul_comm (16777216 ^ i.toNat), ← Int.mul_assoc, Int.mul_comm ((x + z + cy) / 16777216)]]
      omega
end W4
end
section
/-! The reference's whole numbers: differences, products, halves. -/
section W5
variable {G : mG} {d a b c r r2 r3 : Nat} {M : mM}
theorem s_MW_less (hO : mOk M) (hA : W3 M a r) (hB : W3 M b r2) (hne : a ≠ b) (hle : wv M b ≤ wv M a) : Cv G y_MW_less (d + 1) [vr a, vr b] M (fun M' => mOk M' ∧ FI (fun x => x = a ∨ x = a + 1) M M' ∧ W3 M' a r ∧ wv M' a = wv M a - wv M b) := by
  have hA0 := hA
  have hB0 := hB
  have hnb : mI M b 1 ≤ mI M a 1 := by
    have h := hB.size (k := (mI M a 1).toNat) (by have := hA.lt; omega)
    have := hA.1.2.2.2.2.2.1
    omega
  obtain ⟨⟨w1, w2, w3, w4, w5, w6, w7⟩, wd, wt⟩ := hA
  obtain ⟨⟨v1, v2, v3, v4, v5, v6, v7⟩, vd, vt⟩ := hB
  have hab : a ≠ b + 1 := fun q => by rw [← q, w1] at v3; omega
  have hba : a + 1 ≠ b := fun q => by rw [q, v1] at w3; omega
  refine k_MW_less hO ?_
  suffices H : ∀ (k : Nat) (i bw : Int) (M1 : mM), 0 ≤ i → mI M a 1 - i = k → 0 ≤ bw → bw ≤ 1 → mOk M1 → FI (fun x => x = a + 1) M M1 → (∀ j : Nat, (j : Int) < i → 0 ≤ mI M1 (a + 1) j ∧ mI M1 (a + 1) j < 16777216) → (∀ j : Nat, i ≤ (j : Int) → mI M1 (a + 1) j = mI M (a + 1) j) → dg (mI M1 (a + 1)) i.toNat - bw * 16777216 ^ i.toNat = dg (mI M (a + 1)) i.toNat - dg (wg M b) i.toNat → h_MW_less_4 G d a b bw i M1 (fun M' => mOk M' ∧ FI (fun x => x = a ∨ x = a + 1) M M' ∧ W3 M' a r ∧ wv M' a = wv M a - wv M b) from
    H (mI M a 1).toNat 0 0 M (by omega) (by omega) (by omega) (by omega) hO FI.refl (fun j hj => by omega) (fun j hj => rfl) (by simp [dg])
  intro k
  induction k with
  | zero =>
    intro i bw M1 h0 hk hc0 hc1 hO1 hF1 hd1 he1 hv1
    have hW1 : Wh M1 a r := hA0.1.out hF1 (by omega)
    have ea : mI M1 a = mI M a := hF1.2.2.2.2.2.2 _ (by omega)
    refine k_MW_less_4 hO1 ⟨by omega, by omega⟩ ⟨by omega, by omega⟩ ⟨hW1.1, fun hc => ?_, fun hc => by rw [ea] at hc; omega⟩
    have hbw : bw = 0 := by
      have h1 := dg_lt (f := mI M1 (a + 1)) i.toNat (fun j hj => (hd1 j (by omega)).2)
      rw [show i.toNat = (mI M a 1).toNat by first | rfl | omega, dg_wg v6 (by omega)] at hv1
      rw [show i.toNat = (mI M a 1).toNat by first | rfl | omega] at h1
      unfold wv at hv1 hle
      by_cases z : bw = 1
      · rw [z] at hv1; omega
      · omega
    refine (s_MW_trim (mI M1 a 1).toNat M1 hO1 hW1 (fun j hj => hd1 j (by rw [ea] at hj; omega)) (by rw [ea]; omega)).mono (fun M2 h2 => ?_)
    obtain ⟨g1, g2, g3, g4, g5, g6⟩ := h2
    refine ⟨g1, g1, (hF1.mono (fun x q => Or.inr q)).trans (g2.mono (fun x q => Or.inl q)), ⟨g3, g4, g5⟩, ?_⟩
    rw [g6]
    rw [hbw, show i.toNat = (mI M a 1).toNat by first | rfl | omega, dg_wg v6 (by omega)] at hv1
    unfold wv at hv1 ⊢
    rw [ea]
    omega
  | succ k ih =>
    intro i bw M1 h0 hk hc0 hc1 hO1 hF1 hd1 he1 hv1
    have hW1 : Wh M1 a r := hA0.1.out hF1 (by omega)
    have hB1 := hB0.out hF1 (by omega) (by omega)
    have ea : mI M1 a = mI M a := hF1.2.2.2.2.2.2 _ (by omega)
    have eb : mI M1 b = mI M b := hF1.2.2.2.2.2.2 _ (by omega)
    have eb1 : mI M1 (b + 1) = mI M (b + 1) := hF1.2.2.2.2.2.2 _ (by omega)
    refine k_MW_less_4 hO1 ⟨by omega, by omega⟩ ⟨by omega, by omega⟩ ?_
    rw [hW1.2.1, hW1.2.2.2.1, ea]
    refine ⟨hW1.1, fun hc => by omega, fun hc => ⟨hW1.2.2.1, by omega, hB1.1.1.1, ?_⟩⟩
    refine (s_MW_at hO1 ⟨by omega, by omega⟩ h0 hB1.1.1).mono (fun z M3 hz => ?_)
    obtain ⟨rfl, hz⟩ := hz
    have hz' : z = wg M b i.toNat := by
      rw [hz, eb, eb1]
      unfold wg
      rw [show ((i.toNat : Nat) : Int) = i by first | rfl | omega]
    have hzb := hB0.wgb i.toNat
    have hda := wd i.toNat (by omega)
    rw [he1 i.toNat (by omega), hW1.2.1, hW1.2.2.2.1]
    refine ⟨⟨by omega, by omega⟩, hO1, ⟨by omega, by omega⟩, fun v1 e1 => ⟨hW1.1, fun v2 e2 => ?_⟩⟩
    have hv2 : 0 ≤ v2 ∧ v2 < 16777216 ∧ v1 = (if 0 ≤ mI M (a + 1) i.toNat - z - bw then 0 else 1) ∧ v2 = mI M (a + 1) i.toNat - z - bw + v1 * 16777216 ∧ 0 ≤ v1 ∧ v1 ≤ 1 := by
      refine ⟨?_, ?_, e1, ?_, ?_, ?_⟩ <;> rw [e1] at * <;> (try rw [e2]) <;> split <;> omega
    refine ⟨hW1.2.2.1, by omega, ⟨by omega, by omega⟩, fun M4 e4 => ?_⟩
    have hF4 : FI (fun x => x = a + 1) M3 M4 := by rw [e4]; exact FI.ui rfl
    have g2 : ∀ j, mI M4 (a + 1) j = if j = i.toNat then v2 else mI M3 (a + 1) j := fun j => by
      rw [e4, mI_UI]
      by_cases z : j = i.toNat
      · rw [if_pos ⟨rfl, z⟩, if_pos z]
      · rw [if_neg (fun w => z w.2), if_neg z]
    refine ih (i + 1) v1 M4 (by omega) (by omega) (by omega) (by omega) (by rw [e4]; exact mOk_UI hO1 ⟨by omega, by omega⟩) (hF1.trans hF4) (fun j hj => ?_) (fun j hj => ?_) ?_
    · rw [g2]
      split
      · omega
      · exact hd1 j (by omega)
    · rw [g2, if_neg (by omega)]
      exact he1 j (by omega)
    · rw [show (i + 1).toNat = i.toNat + 1 by first | rfl | omega, dg, dg, dg, g2, if_pos rfl, dg_congr (g := mI M3 (a + 1)) _ (fun j hj => by rw [g2, if_neg (by omega)]), ← hz', Int.pow_succ]
      have e9 : v2 * 16777216 ^ i.toNat = (mI M (a + 1) i.toNat - z - bw + v1 * 16777216) * 16777216 ^ i.toNat := by rw [hv2.2.2.2.1]
      rw [Int.add_mul, Int.sub_mul, Int.sub_mul] at e9
      rw [show v1 * (16777216 ^ i.toNat * 16777216) = v1 * 16777216 * 16777216 ^ i.toNat by rw [Int.mul_comm (16777216 ^ i.toNat), ← Int.mul_assoc]]
      omega
theorem s_MW_twice {m : Int} (hm : m = 0 ∨ m = 1) (hO : mOk M) (hA : W3 M a r) (hr : mI M a 1 < r) (hz : 0 < mI M a 1 ∨ m = 1 ∨ True) : Cv G y_MW_twice d [vr a, vi m] M (fun M' => mOk M' ∧ FI (fun x => x = a ∨ x = a + 1) M M' ∧ W3 M' a r ∧ wv M' a = 2 * wv M a + m) := by
  have hA0 := hA
  obtain ⟨⟨w1, w2, w3, w4, w5, w6, w7⟩, wd, wt⟩ := hA
  refine k_MW_twice hO ⟨by omega, by omega⟩ (fun c0 hc0 => ?_)
  have hc0 : c0 = m := by rw [hc0]; split <;> omega
  subst hc0
  suffices H : ∀ (k : Nat) (i cy : Int) (M1 : mM), 0 ≤ i → mI M a 1 - i = k → 0 ≤ cy → cy ≤ 1 → mOk M1 → FI (fun x => x = a + 1) M M1 → (∀ j : Nat, (j : Int) < i → 0 ≤ mI M1 (a + 1) j ∧ mI M1 (a + 1) j < 16777216) → (∀ j : Nat, i ≤ (j : Int) → mI M1 (a + 1) j = mI M (a + 1) j) → dg (mI M1 (a + 1)) i.toNat + cy * 16777216 ^ i.toNat = 2 * dg (mI M (a + 1)) i.toNat + c0 → h_MW_twice_12 G d a cy i M1 (fun M' => mOk M' ∧ FI (fun x => x = a ∨ x = a + 1) M M' ∧ W3 M' a r ∧ wv M' a = 2 * wv M a + c0) from
    H (mI M a 1).toNat 0 c0 M (by omega) (by omega) (by omega) (by omega) hO FI.refl (fun j hj => by omega) (fun j hj => rfl) (by simp [dg])
  intro k
  induction k with
  | zero =>
    intro i cy M1 h0 hk hc0 hc1 hO1 hF1 hd1 he1 hv1
    have hF1' : FI (fun x => x = a ∨ x = a + 1) M M1 := hF1.mono (fun x q => Or.inr q)
    have hW1 : Wh M1 a r := hA0.1.out hF1 (by omega)
    have ea : mI M1 a = mI M a := hF1.2.2.2.2.2.2 _ (by omega)
    have hii : i.toNat = (mI M a 1).toNat := by omega
    rw [hii] at hv1
    refine k_MW_twice_12 hO1 ⟨by omega, by omega⟩ ⟨by omega, by omega⟩ ?_
    rw [hW1.2.1, hW1.2.2.2.1, ea]
    refine ⟨hW1.1, fun hc => ⟨fun q => ?_, fun q => ?_⟩, fun hc => by omega⟩
    · have hcy : cy = 0 := by omega
      rw [hcy] at hv1
      have hval : wv M1 a = 2 * wv M a + c0 := by
        unfold wv
        rw [ea]
        omega
      refine ⟨hO1, hF1', ⟨hW1, fun j hj => hd1 j (by rw [ea] at hj; omega), fun z => ?_⟩, hval⟩
      rw [ea] at z ⊢
      intro hz0
      have hlt : wv M1 a < 16777216 ^ ((mI M a 1).toNat - 1) := by
        unfold wv
        obtain ⟨m9, hm9⟩ : ∃ m9, (mI M a 1).toNat = m9 + 1 := ⟨(mI M a 1).toNat - 1, by omega⟩
        rw [ea, hm9, dg, show m9 = (mI M a 1 - 1).toNat by first | rfl | omega, hz0]
        have := dg_lt (f := mI M1 (a + 1)) (mI M a 1 - 1).toNat (fun j hj => (hd1 j (by omega)).2)
        rw [show (mI M a 1 - 1).toNat + 1 - 1 = (mI M a 1 - 1).toNat by first | rfl | omega]
        omega
      have n1 := hA0.nonneg
      have := hA0.ge (by omega)
      omega
    · have hcy : cy = 1 := by omega
      refine ⟨hW1.2.2.1, by omega, fun M4 e4 => ?_⟩
      have f1 : mI M4 a 1 = mI M a 1 := by rw [e4, mI_UI, if_neg (by omega), ea]
      rw [f1]
      refine ⟨⟨by omega, by omega⟩, fun M5 e5 => ?_⟩
      have hF4 : FI (fun x => x = a ∨ x = a + 1) M1 M4 := by rw [e4]; exact FI.ui (Or.inr rfl)
      have hF5 : FI (fun x => x = a ∨ x = a + 1) M4 M5 := by rw [e5]; exact FI.ui (Or.inl rfl)
      have hF := hF4.trans hF5
      have g1 : mI M5 a 1 = mI M a 1 + 1 := by rw [e5, mI_UI, if_pos ⟨rfl, rfl⟩]
      have g2 : ∀ j, mI M5 (a + 1) j = if j = (mI M a 1).toNat then cy else mI M1 (a + 1) j := fun j => by
        rw [e5, mI_UI, if_neg (by omega), e4, mI_UI]
        by_cases z : j = (mI M a 1).toNat
        · rw [if_pos ⟨rfl, z⟩, if_pos z]
        · rw [if_neg (fun w => z w.2), if_neg z]
      have hO4 : mOk M4 := by rw [e4]; exact mOk_UI hO1 ⟨by omega, by omega⟩
      refine ⟨by rw [e5]; exact mOk_UI hO4 ⟨by omega, by omega⟩, hF1'.trans hF, ⟨hW1.fi hF (by omega) (by omega), fun j hj => ?_, fun z => ?_⟩, ?_⟩
      · rw [g2]
        split
        · omega
        · exact hd1 j (by omega)
      · rw [g1, g2, if_pos (by omega)]
        omega
      · unfold wv
        rw [g1, show (mI M a 1 + 1).toNat = (mI M a 1).toNat + 1 by first | rfl | omega, dg, g2, if_pos rfl, dg_congr (g := mI M1 (a + 1)) _ (fun j hj => by rw [g2, if_neg (by omega)])]
        exact hv1
  | succ k ih =>
    intro i cy M1 h0 hk hc0 hc1 hO1 hF1 hd1 he1 hv1
    have hW1 : Wh M1 a r := hA0.1.out hF1 (by omega)
    have ea : mI M1 a = mI M a := hF1.2.2.2.2.2.2 _ (by omega)
    have hda := wd i.toNat (by omega)
    refine k_MW_twice_12 hO1 ⟨by omega, by omega⟩ ⟨by omega, by omega⟩ ?_
    rw [hW1.2.1, hW1.2.2.2.1, ea, he1 i.toNat (by omega)]
    refine ⟨hW1.1, fun hc => by omega, fun hc => ⟨hW1.2.2.1, by omega, ⟨by omega, by omega⟩, by omega, fun M4 e4 => ?_⟩⟩
    generalize hs : 2 * mI M (a + 1) i.toNat + cy = s at e4 ⊢
    have hs0 : 0 ≤ s := by omega
    rw [Int.tmod_eq_emod_of_nonneg hs0] at e4
    rw [Int.tdiv_eq_ediv_of_nonneg hs0]
    have hdm := Int.emod_add_mul_ediv s 16777216
    have hF4 : FI (fun x => x = a + 1) M1 M4 := by rw [e4]; exact FI.ui rfl
    have g2 : ∀ j, mI M4 (a + 1) j = if j = i.toNat then s % 16777216 else mI M1 (a + 1) j := fun j => by
      rw [e4, mI_UI]
      by_cases z : j = i.toNat
      · rw [if_pos ⟨rfl, z⟩, if_pos z]
      · rw [if_neg (fun w => z w.2), if_neg z]
    refine ih (i + 1) _ M4 (by omega) (by omega) (by omega) (by omega) (by rw [e4]; exact mOk_UI hO1 ⟨by omega, by omega⟩) (hF1.trans hF4) (fun j hj => ?_) (fun j hj => ?_) ?_
    · rw [g2]
      split
      · omega
      · exact hd1 j (by omega)
    · rw [g2, if_neg (by omega)]
      exact he1 j (by omega)
    · rw [show (i + 1).toNat = i.toNat + 1 by first | rfl | omega, dg, dg, g2, if_pos rfl, dg_congr (g := mI M1 (a + 1)) _ (fun j hj => by rw [g2, if_neg (by omega)]), Int.pow_succ]
      have e9 : s * 16777216 ^ i.toNat = (s % 16777216 + 16777216 * (s / 16777216)) * 16777216 ^ i.toNat := by rw [hdm]
      rw [Int.add_mul, ← hs, Int.add_mul, Int.mul_assoc] at e9
      rw [hs] at e9
      rw [show s / 16777216 * (16777216 ^ i.toNat * 16777216) = 16777216 * (s / 16777216) * 16777216 ^ i.toNat by rw [Int.mul_comm (16777216 ^ i.toNat), ← Int.mul_assoc, Int.mul_comm (s / 16777216)]]
      omega
end W5
end
section
/-! The reference's whole numbers: products, halves, bits, tenths, small ones. -/
section W6
variable {G : mG} {d a b c r r2 r3 : Nat} {M : mM}
theorem dg_zero {f : Nat → Int} : ∀ n, (∀ j, j < n → f j = 0) → dg f n = 0
  | 0, _ => rfl
  | n + 1, h => by rw [dg, dg_zero n (fun j hj => h j (by omega)), h n (by omega)]; simp
theorem dg_succ (f : Nat → Int) (n : Nat) : dg f (n + 1) = dg f n + f n * 16777216 ^ n := rfl
theorem dg_split {f : Nat → Int} (n k : Nat) : dg f (n + k) = dg f n + dg (fun j => f (n + j)) k * 16777216 ^ n := by
  induction k with
  | zero => simp [dg]
  | succ k ih =>
    show dg f (n + k + 1) = _
    rw [dg, ih, dg, Int.add_mul, Int.pow_add, Int.mul_assoc (f (n + k)), Int.mul_comm (16777216 ^ k)]
    omega
def Hid0 (p : Prop) : Prop := p
theorem alg9 {dg2 α β γ δ ε ζ η θ : Int} (e6 : η = α + γ) (e7 : η = θ + β + ζ) (hv : dg2 + θ = δ + ε) : dg2 + (α - β) + γ = δ + (ε + ζ) := by omega
theorem mex9 {x y : Int} (h0 : 0 ≤ y) (h : y < x) : ∃ m, x.toNat = y.toNat + (m + 1) := ⟨x.toNat - y.toNat - 1, by omega⟩
theorem tns9 {i j : Int} (h : 0 ≤ i + j) : (i + (j + 1)).toNat = (i + j).toNat + 1 := by omega
theorem tno9 {j : Int} (h : 0 ≤ j) : (j + 1).toNat = j.toNat + 1 := by omega
/-- one more row of a product -/
theorem s_MW_product (hO : mOk M) (hA : Wh M a r) (hB : W3 M b r2) (hC : W3 M c r3) (hab : a ≠ b) (hac : a ≠ c) (hr : mI M b 1 + mI M c 1 ≤ r) : Cv G y_MW_product (d + 1) [vr a, vr b, vr c] M (fun M' => mOk M' ∧ FI (fun x => x = a ∨ x = a + 1) M M' ∧ W3 M' a r ∧ wv M' a = wv M b * wv M c) := by
  have hB0 := hB
  have hC0 := hC
  obtain ⟨⟨u1, u2, u3, u4, u5, u6, u7⟩, ud, ut⟩ := hB
  obtain ⟨⟨v1, v2, v3, v4, v5, v6, v7⟩, vd, vt⟩ := hC
  have hA0 := hA
  obtain ⟨w1, w2, w3, w4, w5, w6, w7⟩ := hA
  have h1 : a ≠ b + 1 := fun q => by rw [← q, w1] at u3; omega
  have h2 : a + 1 ≠ b := fun q => by rw [q, u1] at w3; omega
  have h3 : a ≠ c + 1 := fun q => by rw [← q, w1] at v3; omega
  have h4 : a + 1 ≠ c := fun q => by rw [q, v1] at w3; omega
  obtain ⟨zb1, zb2⟩ : ¬ (b = a ∨ b = a + 1) ∧ ¬ (b + 1 = a ∨ b + 1 = a + 1) := ⟨fun u => u.elim (fun e => hab e.symm) (fun e => h2 e.symm), fun u => u.elim (fun e => h1 e.symm) (fun e => hab (Nat.succ.inj e).symm)⟩
  obtain ⟨zc1, zc2⟩ : ¬ (c = a ∨ c = a + 1) ∧ ¬ (c + 1 = a ∨ c + 1 = a + 1) := ⟨fun u => u.elim (fun e => hac e.symm) (fun e => h4 e.symm), fun u => u.elim (fun e => h3 e.symm) (fun e => hac (Nat.succ.inj e).symm)⟩
  clear hab hac h1 h2 h3 h4
  replace zb1 : Hid0 _ := zb1
  replace zb2 : Hid0 _ := zb2
  replace zc1 : Hid0 _ := zc1
  replace zc2 : Hid0 _ := zc2
  generalize hnb : mI M b 1 = nb at *
  generalize hnc : mI M c 1 = nc at *
  refine k_MW_product hO ⟨u1, v1, w1, by rw [hnb, hnc]; exact ⟨by omega, by omega⟩, fun M0 e0 => ?_⟩
  rw [hnb, hnc] at e0
  have hO0 : mOk M0 := by rw [e0]; exact mOk_UI hO ⟨by omega, by omega⟩
  have hF0 : FI (fun x => x = a ∨ x = a + 1) M M0 := by rw [e0]; exact FI.ui (Or.inl rfl)
  have hn0 : mI M0 a 1 = nb + nc := by rw [e0, mI_UI, if_pos ⟨rfl, rfl⟩]
  -- the facts that stay
  have stay : ∀ M1, FI (fun x => x = a ∨ x = a + 1) M M1 → mI M1 b 1 = nb ∧ mI M1 c 1 = nc ∧ mI M1 (b + 1) = mI M (b + 1) ∧ mI M1 (c + 1) = mI M (c + 1) ∧ mK M1 b = 20 ∧ mK M1 c = 20 ∧ mR M1 b 0 = b + 1 ∧ mR M1 c 0 = c + 1 ∧ mK M1 (b + 1) = 30 ∧ mK M1 (c + 1) = 30 ∧ mN M1 (b + 1) = r2 ∧ mN M1 (c + 1) = r3 := by
    intro M1 hF
    refine ⟨?_, ?_, hF.2.2.2.2.2.2 _ zb2, hF.2.2.2.2.2.2 _ zc2, by rw [hF.1]; exact u1, by rw [hF.1]; exact v1, by rw [hF.2.2.1]; exact u2, by rw [hF.2.2.1]; exact v2, by rw [hF.1]; exact u3, by rw [hF.1]; exact v3, by rw [hF.2.1]; exact u4, by rw [hF.2.1]; exact v4⟩
    · rw [hF.2.2.2.2.2.2 b zb1]; exact hnb
    · rw [hF.2.2.2.2.2.2 c zc1]; exact hnc
  generalize hPost : (fun M' => mOk M' ∧ FI (fun x => x = a ∨ x = a + 1) M M' ∧ W3 M' a r ∧ wv M' a = wv M b * wv M c) = Post
  -- all rows but the first i
  have rowsL : ∀ (k : Nat) (i : Int) (M1 : mM), 0 ≤ i → nb - i = k → mOk M1 → FI (fun x => x = a ∨ x = a + 1) M M1 → mI M1 a 1 = nb + nc → (∀ j : Nat, (j : Int) < nb + nc → 0 ≤ mI M1 (a + 1) j ∧ mI M1 (a + 1) j < 16777216) → (∀ j : Nat, i + nc ≤ (j : Int) → (j : Int) < nb + nc → mI M1 (a + 1) j = 0) → dg (mI M1 (a + 1)) (nb + nc).toNat = dg (mI M (b + 1)) i.toNat * wv M c → h_MW_product_38 G d a b c i M1 Post := by
    intro k
    induction k with
    | zero =>
      intro i M1 g0 gk hO1 hF1 hn1 hd1 hz1 hv1
      replace hv1 : Hid0 _ := hv1
      obtain ⟨s1, s2, s3, s4, s5, s6, s7, s8, s9, s10, s11, s12⟩ := stay M1 hF1
      have hW1 : Wh M1 a r := hA0.fi hF1 (by omega) (by omega)
      refine k_MW_product_38 hO1 ⟨by omega, by omega⟩ ?_
      rw [s1]
      refine ⟨s5, fun hc => ⟨hW1.1, ?_⟩, fun hc => by omega⟩
      refine (s_MW_trim (mI M1 a 1).toNat M1 hO1 hW1 (fun j hj => hd1 j (by omega)) (by omega)).mono (fun M2 q2 => ?_)
      obtain ⟨q1, q2, q3, q4, q5, q6⟩ := q2
      rw [← hPost]
      refine ⟨q1, q1, hF1.trans (q2.mono (fun x q => Or.inl q)), ⟨q3, q4, q5⟩, ?_⟩
      rw [q6]
      unfold Hid0 at hv1
      unfold wv at hv1 ⊢
      rw [hn1, hv1, hnb, hnc, show i.toNat = nb.toNat by first | rfl | omega]
    | succ k ih =>
      intro i M1 g0 gk hO1 hF1 hn1 hd1 hz1 hv1
      replace hv1 : Hid0 _ := hv1
      obtain ⟨s1, s2, s3, s4, s5, s6, s7, s8, s9, s10, s11, s12⟩ := stay M1 hF1
      refine k_MW_product_38 hO1 ⟨by omega, by omega⟩ ?_
      rw [s1]
      refine ⟨s5, fun hc => by omega, fun hc => ?_⟩
      have hbi := ud i.toNat (by omega)
      -- the inner loop
      suffices H : ∀ (k2 : Nat) (j cy : Int) (M2 : mM), 0 ≤ j → nc - j = k2 → 0 ≤ cy → cy < 16777216 → mOk M2 → FI (fun x => x = a ∨ x = a + 1) M M2 → mI M2 a 1 = nb + nc → (∀ q : Nat, (q : Int) < nb + nc → 0 ≤ mI M2 (a + 1) q ∧ mI M2 (a + 1) q < 16777216) → (∀ q : Nat, i + nc ≤ (q : Int) → (q : Int) < nb + nc → mI M2 (a + 1) q = 0) → dg (mI M2 (a + 1)) (nb + nc).toNat + cy * 16777216 ^ (i + j).toNat = dg (mI M (b + 1)) i.toNat * wv M c + mI M (b + 1) i.toNat * dg (mI M (c + 1)) j.toNat * 16777216 ^ i.toNat → h_MW_product_52 G d a b c i cy j M2 Post by
        refine H nc.toNat 0 0 M1 (by omega) (by omega) (by omega) (by omega) hO1 hF1 hn1 hd1 hz1 ?_
        unfold Hid0 at hv1
        rw [show (0 : Int).toNat = 0 from rfl, hv1]
        simp [dg]
      intro k2
      induction k2 with
      | zero =>
        intro j cy M2 f0 fk c0 c1 hO2 hF2 hn2 hd2 hz2 hv2
        replace hv2 : Hid0 _ := hv2
        obtain ⟨s1, s2, s3, s4, s5, s6, s7, s8, s9, s10, s11, s12⟩ := stay M2 hF2
        have hW2 : Wh M2 a r := hA0.fi hF2 (by omega) (by omega)
        have hj : j = nc := by omega
        refine k_MW_product_52 hO2 ⟨by omega, by omega⟩ ⟨by omega, by omega⟩ ⟨by omega, by omega⟩ ?_
        rw [s2, hW2.2.1, hW2.2.2.2.1]
        refine ⟨s6, fun hc => ⟨hW2.1, hW2.2.2.1, by omega, ⟨by omega, by omega⟩, fun M4 e4 => ?_⟩, fun hc => by omega⟩
        have hF4 : FI (fun x => x = a ∨ x = a + 1) M2 M4 := by rw [e4]; exact FI.ui (Or.inr rfl)
        have e4a : ∀ q, mI M4 (a + 1) q = if q = (i + nc).toNat then cy else mI M2 (a + 1) q := fun q => by
          rw [e4, mI_UI]
          by_cases z : q = (i + nc).toNat
          · rw [if_pos ⟨rfl, z⟩, if_pos z]
          · rw [if_neg (fun w => z w.2), if_neg z]
        refine ih (i + 1) M4 (by omega) (by omega) (by rw [e4]; exact mOk_UI hO2 ⟨by omega, by omega⟩) (hF2.trans hF4) (by rw [e4, mI_UI, if_neg (by omega)]; exact hn2) (fun q hq => ?_) (fun q z1 z2 => ?_) ?_
        · rw [e4a]
          split
          · omega
          · exact hd2 q hq
        · rw [e4a, if_neg (by omega)]
          exact hz2 q (by omega) z2
        · -- the place i + nc was 0
          have hz := hz2 (i + nc).toNat (by omega) (by omega)
          obtain ⟨m, hm⟩ : ∃ m, (nb + nc).toNat = (i + nc).toNat + (m + 1) := mex9 (by omega) (by omega)
          have key : ∀ f : Nat → Int, (∀ q, f q = if q = (i + nc).toNat then cy else mI M2 (a + 1) q) → dg f (nb + nc).toNat = dg (mI M2 (a + 1)) (nb + nc).toNat + cy * 16777216 ^ (i + nc).toNat := by
            intro f hf
            rw [hm, dg_split, dg_split (f := mI M2 (a + 1)), dg_congr (g := mI M2 (a + 1)) (f := f) _ (fun q hq => by rw [hf, if_neg (by omega)])]
            have : ∀ n, dg (fun q => f ((i + nc).toNat + q)) (n + 1) = dg (fun q => mI M2 (a + 1) ((i + nc).toNat + q)) (n + 1) + cy := by
              intro n
              induction n with
              | zero => simp [dg, hf, hz]
              | succ n ihn =>
                rw [dg_succ (fun q => f ((i + nc).toNat + q)) (n + 1), ihn, dg_succ (fun q => mI M2 (a + 1) ((i + nc).toNat + q)) (n + 1)]
                show _ + f ((i + nc).toNat + (n + 1)) * _ = _ + mI M2 (a + 1) ((i + nc).toNat + (n + 1)) * _ + cy
                rw [show f ((i + nc).toNat + (n + 1)) = mI M2 (a + 1) ((i + nc).toNat + (n + 1)) by rw [hf, if_neg (by omega)]]
                first | exact Int.add_right_comm _ _ _ | omega
            rw [this, Int.add_mul]
            first | exact (Int.add_assoc _ _ _).symm | omega
          rw [key _ e4a, show (i + 1).toNat = i.toNat + 1 from tno9 g0, dg, Int.add_mul]
          unfold Hid0 at hv2
          rw [hj] at hv2
          rw [hv2]
          unfold wv
          rw [hnc, Int.mul_assoc, Int.mul_assoc, Int.mul_comm (dg (mI M (c + 1)) nc.toNat)]
      | succ k2 ih2 =>
        intro j cy M2 f0 fk c0 c1 hO2 hF2 hn2 hd2 hz2 hv2
        replace hv2 : Hid0 _ := hv2
        obtain ⟨s1, s2, s3, s4, s5, s6, s7, s8, s9, s10, s11, s12⟩ := stay M2 hF2
        have hW2 : Wh M2 a r := hA0.fi hF2 (by omega) (by omega)
        have hdj := hd2 (i + j).toNat (by omega)
        have hcj := vd j.toNat (by omega)
        have hp0 := Int.mul_nonneg hbi.1 hcj.1
        have hp1 : mI M (b + 1) i.toNat * mI M (c + 1) j.toNat ≤ 16777215 * 16777215 := Int.mul_le_mul (by omega) (by omega) hcj.1 (by omega)
        refine k_MW_product_52 hO2 ⟨by omega, by omega⟩ ⟨by omega, by omega⟩ ⟨by omega, by omega⟩ ?_
        rw [s2, hW2.2.1, hW2.2.2.2.1, s7, s8, s9, s10, s11, s12, s3, s4]
        generalize hS : cy + mI M2 (a + 1) (i + j).toNat + mI M (b + 1) i.toNat * mI M (c + 1) j.toNat = S
        have hS0 : 0 ≤ S := by omega
        have hS1 : S < 16777216 * 16777216 := by omega
        have hmm := Int.emod_nonneg S (show (16777216 : Int) ≠ 0 by decide)
        have hmm2 := Int.emod_lt_of_pos S (show (0 : Int) < 16777216 by decide)
        have hdm := Int.emod_add_mul_ediv S 16777216
        replace hdm : Hid0 _ := hdm
        clear hp0 hp1 hbi hcj hdj
        rw [Int.tmod_eq_emod_of_nonneg hS0, Int.tdiv_eq_ediv_of_nonneg hS0]
        refine ⟨s6, fun hc => by omega, fun hc => ⟨hW2.1, hW2.2.2.1, by omega, s5, rfl, by omega, rfl, by omega, ⟨by omega, by omega⟩, by omega, ⟨by omega, by omega⟩, fun M4 e4 => ?_⟩⟩
        have hF4 : FI (fun x => x = a ∨ x = a + 1) M2 M4 := by rw [e4]; exact FI.ui (Or.inr rfl)
        have e4a : ∀ q, mI M4 (a + 1) q = if q = (i + j).toNat then S % 16777216 else mI M2 (a + 1) q := fun q => by
          rw [e4, mI_UI]
          by_cases z : q = (i + j).toNat
          · rw [if_pos ⟨rfl, z⟩, if_pos z]
          · rw [if_neg (fun w => z w.2), if_neg z]
        refine ih2 (j + 1) _ M4 (by omega) (by omega) (by omega) (by omega) (by rw [e4]; exact mOk_UI hO2 ⟨by omega, by omega⟩) (hF2.trans hF4) (by rw [e4, mI_UI, if_neg (by omega)]; exact hn2) (fun q hq => ?_) (fun q z1 z2 => ?_) ?_
        · rw [e4a]
          split
          · omega
          · exact hd2 q hq
        · rw [e4a, if_neg (by omega)]
          exact hz2 q z1 z2
        · obtain ⟨m, hm⟩ : ∃ m, (nb + nc).toNat = (i + j).toNat + (m + 1) := mex9 (by omega) (by omega)
          have key : dg (mI M4 (a + 1)) (nb + nc).toNat = dg (mI M2 (a + 1)) (nb + nc).toNat + (S % 16777216 - mI M2 (a + 1) (i + j).toNat) * 16777216 ^ (i + j).toNat := by
            rw [hm, dg_split, dg_split (f := mI M2 (a + 1)), dg_congr (g := mI M2 (a + 1)) (f := mI M4 (a + 1)) _ (fun q hq => by rw [e4a, if_neg (by omega)])]
            have : ∀ n, dg (fun q => mI M4 (a + 1) ((i + j).toNat + q)) (n + 1) = dg (fun q => mI M2 (a + 1) ((i + j).toNat + q)) (n + 1) + (S % 16777216 - mI M2 (a + 1) (i + j).toNat) := by
              intro n
              induction n with
              | zero =>
                simp [dg, e4a]
                omega
              | succ n ihn =>
                rw [dg_succ (fun q => mI M4 (a + 1) ((i + j).toNat + q)) (n + 1), ihn, dg_succ (fun q => mI M2 (a + 1) ((i + j).toNat + q)) (n + 1)]
                show _ + mI M4 (a + 1) ((i + j).toNat + (n + 1)) * _ = _ + mI M2 (a + 1) ((i + j).toNat + (n + 1)) * _ + (S % 16777216 - mI M2 (a + 1) (i + j).toNat)
                rw [show mI M4 (a + 1) ((i + j).toNat + (n + 1)) = mI M2 (a + 1) ((i + j).toNat + (n + 1)) by rw [e4a, if_neg (by omega)]]
                first | exact Int.add_right_comm _ _ _ | omega
            rw [this, Int.add_mul]
            first | exact (Int.add_assoc _ _ _).symm | omega
          rw [key, show (i + (j + 1)).toNat = (i + j).toNat + 1 from tns9 (by omega), show (j + 1).toNat = j.toNat + 1 from tno9 f0, dg, Int.pow_succ]
          have e5 : (16777216 : Int) ^ (i + j).toNat = 16777216 ^ i.toNat * 16777216 ^ j.toNat := by rw [← Int.pow_add, show (i + j).toNat = i.toNat + j.toNat from Int.toNat_add g0 f0]
          unfold Hid0 at hdm hv2
          have e6 : S * 16777216 ^ (i + j).toNat = (S % 16777216 + 16777216 * (S / 16777216)) * 16777216 ^ (i + j).toNat := by rw [hdm]
          rw [Int.add_mul] at e6
          have e7 : S * 16777216 ^ (i + j).toNat = cy * 16777216 ^ (i + j).toNat + mI M2 (a + 1) (i + j).toNat * 16777216 ^ (i + j).toNat + mI M (b + 1) i.toNat * mI M (c + 1) j.toNat * 16777216 ^ (i + j).toNat := by rw [← hS, Int.add_mul, Int.add_mul]
          have e8 : mI M (b + 1) i.toNat * (dg (mI M (c + 1)) j.toNat + mI M (c + 1) j.toNat * 16777216 ^ j.toNat) * 16777216 ^ i.toNat = mI M (b + 1) i.toNat * dg (mI M (c + 1)) j.toNat * 16777216 ^ i.toNat + mI M (b + 1) i.toNat * mI M (c + 1) j.toNat * 16777216 ^ (i + j).toNat := by
            rw [e5, Int.mul_add, Int.add_mul]
            congr 1
            rw [Int.mul_comm (16777216 ^ i.toNat)]
            simp only [Int.mul_assoc]
          have e9 : S / 16777216 * (16777216 ^ (i + j).toNat * 16777216) = 16777216 * (S / 16777216) * 16777216 ^ (i + j).toNat := by rw [Int.mul_comm (16777216 ^ (i + j).toNat), ← Int.mul_assoc, Int.mul_comm (S / 16777216)]
          rw [e8, e9, Int.sub_mul]
          first | exact alg9 e6 e7 hv2 | omega
  -- the places become 0
  suffices H : ∀ (k : Nat) (i : Int) (M1 : mM), 0 ≤ i → nb + nc - i = k → mOk M1 → FI (fun x => x = a ∨ x = a + 1) M M1 → mI M1 a 1 = nb + nc → (∀ j : Nat, (j : Int) < i → mI M1 (a + 1) j = 0) → h_MW_product_15 G d a b c i M1 Post from
    H (nb + nc).toNat 0 M0 (by omega) (by omega) hO0 hF0 hn0 (fun j hj => by omega)
  intro k
  induction k with
  | zero =>
    intro i M1 g0 gk hO1 hF1 hn1 hz1
    have hW1 : Wh M1 a r := hA0.fi hF1 (by omega) (by omega)
    refine k_MW_product_15 hO1 ⟨by omega, by omega⟩ ⟨hW1.1, fun hc => ?_, fun hc => by omega⟩
    refine rowsL nb.toNat 0 M1 (by omega) (by omega) hO1 hF1 hn1 (fun j hj => by rw [hz1 j (by omega)]; omega) (fun j z1 z2 => hz1 j (by omega)) ?_
    rw [dg_zero _ (fun j hj => hz1 j (by omega))]
    simp [dg]
  | succ k ih =>
    intro i M1 g0 gk hO1 hF1 hn1 hz1
    have hW1 : Wh M1 a r := hA0.fi hF1 (by omega) (by omega)
    refine k_MW_product_15 hO1 ⟨by omega, by omega⟩ ?_
    rw [hW1.2.1, hW1.2.2.2.1]
    refine ⟨hW1.1, fun hc => by omega, fun hc => ⟨hW1.2.2.1, by omega, fun M2 e2 => ?_⟩⟩
    have hF2 : FI (fun x => x = a ∨ x = a + 1) M1 M2 := by rw [e2]; exact FI.ui (Or.inr rfl)
    refine ih (i + 1) M2 (by omega) (by omega) (by rw [e2]; exact mOk_UI hO1 ⟨by omega, by omega⟩) (hF1.trans hF2) (by rw [e2, mI_UI, if_neg (by omega)]; exact hn1) (fun j hj => ?_)
    rw [e2, mI_UI]
    split
    · rfl
    · exact hz1 j (by omega)
end W6
end
section
/-! The reference's whole numbers: halves, bits, tenths, small ones. -/
section W7
variable {G : mG} {d a b c r r2 r3 : Nat} {M : mM}
theorem s_MW_halve (hO : mOk M) (hA : W3 M a r) : Cv G y_MW_halve (d + 1) [vr a] M (fun M' => mOk M' ∧ FI (fun x => x = a ∨ x = a + 1) M M' ∧ W3 M' a r ∧ wv M' a = wv M a / 2) := by
  have hA0 := hA
  obtain ⟨⟨w1, w2, w3, w4, w5, w6, w7⟩, wd, wt⟩ := hA
  refine k_MW_halve hO ?_
  suffices H : ∀ (k : Nat) (i : Int) (M1 : mM), 0 ≤ i → mI M a 1 - i = k → mOk M1 → FI (fun x => x = a + 1) M M1 → (∀ j : Nat, (j : Int) < i → 0 ≤ mI M1 (a + 1) j ∧ mI M1 (a + 1) j < 16777216) → (∀ j : Nat, i ≤ (j : Int) → mI M1 (a + 1) j = mI M (a + 1) j) → 2 * dg (mI M1 (a + 1)) i.toNat + (wg M a 0) % 2 = dg (mI M (a + 1)) i.toNat + (if i = 0 then wg M a 0 % 2 else (wg M a i.toNat % 2) * 16777216 ^ i.toNat) → h_MW_halve_2 G d a i M1 (fun M' => mOk M' ∧ FI (fun x => x = a ∨ x = a + 1) M M' ∧ W3 M' a r ∧ wv M' a = wv M a / 2) from
    H (mI M a 1).toNat 0 M (by omega) (by omega) hO FI.refl (fun j hj => by omega) (fun j hj => rfl) (by simp [dg])
  intro k
  induction k with
  | zero =>
    intro i M1 h0 hk hO1 hF1 hd1 he1 hv1
    have hW1 : Wh M1 a r := hA0.1.out hF1 (by omega)
    have ea : mI M1 a = mI M a := hF1.2.2.2.2.2.2 _ (by omega)
    refine k_MW_halve_2 hO1 ⟨by omega, by omega⟩ ⟨hW1.1, fun hc => ?_, fun hc => by rw [ea] at hc; omega⟩
    refine (s_MW_trim (mI M1 a 1).toNat M1 hO1 hW1 (fun j hj => hd1 j (by rw [ea] at hj; omega)) (by rw [ea]; omega)).mono (fun M2 h2 => ?_)
    obtain ⟨g1, g2, g3, g4, g5, g6⟩ := h2
    refine ⟨g1, g1, (hF1.mono (fun x q => Or.inr q)).trans (g2.mono (fun x q => Or.inl q)), ⟨g3, g4, g5⟩, ?_⟩
    rw [g6]
    have hw : wg M a i.toNat = 0 := by unfold wg; rw [if_pos (by omega)]
    have hii : i.toNat = (mI M a 1).toNat := by omega
    have hb := hA0.wgb 0
    have hvv : 2 * wv M1 a + wg M a 0 % 2 = wv M a := by
      unfold wv
      rw [ea, ← hii, hv1]
      by_cases z : i = 0
      · rw [if_pos z]
        rw [z] at hw
        rw [show wg M a 0 = 0 from hw]
        simp
      · rw [if_neg z, hw]
        omega
    omega
  | succ k ih =>
    intro i M1 h0 hk hO1 hF1 hd1 he1 hv1
    have hW1 : Wh M1 a r := hA0.1.out hF1 (by omega)
    have ea : mI M1 a = mI M a := hF1.2.2.2.2.2.2 _ (by omega)
    have hda := wd i.toNat (by omega)
    have hb1 := hA0.wgb (i.toNat + 1)
    refine k_MW_halve_2 hO1 ⟨by omega, by omega⟩ ?_
    rw [hW1.2.1, hW1.2.2.2.1, ea, he1 i.toNat (by omega), he1 (i + 1).toNat (by omega)]
    refine ⟨hW1.1, fun hc => by omega, fun hc => ⟨hW1.2.2.1, by omega, ⟨by omega, by omega⟩, fun q => by omega, fun v hv => ?_⟩⟩
    have hv' : v = wg M a (i.toNat + 1) % 2 * 8388608 := by
      rw [hv]
      unfold wg
      by_cases z : mI M a 1 ≤ i + 1
      · rw [if_pos z, if_pos (by omega)]; rfl
      · rw [if_neg z, if_neg (by omega), show (i + 1).toNat = i.toNat + 1 by first | rfl | omega, Int.tmod_eq_emod_of_nonneg (wd _ (by omega)).1]
    rw [Int.tdiv_eq_ediv_of_nonneg hda.1]
    refine ⟨by omega, ⟨by omega, by omega⟩, fun M4 e4 => ?_⟩
    have hF4 : FI (fun x => x = a + 1) M1 M4 := by rw [e4]; exact FI.ui rfl
    have g2 : ∀ j, mI M4 (a + 1) j = if j = i.toNat then mI M (a + 1) i.toNat / 2 + v else mI M1 (a + 1) j := fun j => by
      rw [e4, mI_UI]
      by_cases z : j = i.toNat
      · rw [if_pos ⟨rfl, z⟩, if_pos z]
      · rw [if_neg (fun w => z w.2), if_neg z]
    refine ih (i + 1) M4 (by omega) (by omega) (by rw [e4]; exact mOk_UI hO1 ⟨by omega, by omega⟩) (hF1.trans hF4) (fun j hj => ?_) (fun j hj => ?_) ?_
    · rw [g2]
      split
      · omega
      · exact hd1 j (by omega)
    · rw [g2, if_neg (by omega)]
      exact he1 j (by omega)
    · have hwi : wg M a i.toNat = mI M (a + 1) i.toNat := by unfold wg; rw [if_neg (by omega)]
      rw [if_neg (by omega), show (i + 1).toNat = i.toNat + 1 by first | rfl | omega, dg, dg, g2, if_pos rfl, dg_congr (g := mI M1 (a + 1)) _ (fun j hj => by rw [g2, if_neg (by omega)]), Int.pow_succ]
      have e5 : wg M a (i.toNat + 1) % 2 * (16777216 ^ i.toNat * 16777216) = 2 * (v * 16777216 ^ i.toNat) := by
        rw [hv', Int.mul_comm (16777216 ^ i.toNat), ← Int.mul_assoc, ← Int.mul_assoc]
        congr 1
        omega
      have e6 : mI M (a + 1) i.toNat * 16777216 ^ i.toNat = (2 * (mI M (a + 1) i.toNat / 2) + mI M (a + 1) i.toNat % 2) * 16777216 ^ i.toNat := by congr 1; omega
      rw [Int.add_mul, Int.mul_assoc] at e6
      rw [e5, Int.add_mul]
      by_cases z : i = 0
      · rw [if_pos z] at hv1
        subst z
        simp [dg] at e6 ⊢
        have hwi0 : wg M a 0 = mI M (a + 1) 0 := hwi
        rw [hwi0]
        omega
      · rw [if_neg z, hwi] at hv1
        omega
theorem s_MW_tenth (hO : mOk M) (hA : W3 M a r) : Ci G y_MW_tenth (d + 1) [vr a] M (fun x M' => mOk M' ∧ FI (fun x => x = a ∨ x = a + 1) M M' ∧ W3 M' a r ∧ wv M' a = wv M a / 10 ∧ x = wv M a % 10) := by
  have hA0 := hA
  obtain ⟨⟨w1, w2, w3, w4, w5, w6, w7⟩, wd, wt⟩ := hA
  refine k_MW_tenth hO ⟨w1, ?_⟩
  suffices H : ∀ (k : Nat) (i rs : Int) (M1 : mM), i + 1 = k → i < mI M a 1 → 0 ≤ rs → rs < 10 → mOk M1 → FI (fun x => x = a + 1) M M1 → (∀ j : Nat, i < (j : Int) → (j : Int) < mI M a 1 → 0 ≤ mI M1 (a + 1) j ∧ mI M1 (a + 1) j < 16777216) → (∀ j : Nat, (j : Int) ≤ i → mI M1 (a + 1) j = mI M (a + 1) j) → 10 * (dg (mI M1 (a + 1)) (mI M a 1).toNat - dg (mI M1 (a + 1)) k) + rs * 16777216 ^ k = dg (mI M (a + 1)) (mI M a 1).toNat - dg (mI M (a + 1)) k → h_MW_tenth_9 G d a rs i M1 (fun x M' => mOk M' ∧ FI (fun x => x = a ∨ x = a + 1) M M' ∧ W3 M' a r ∧ wv M' a = wv M a / 10 ∧ x = wv M a % 10) from
    H (mI M a 1).toNat (mI M a 1 - 1) 0 M (by omega) (by omega) (by omega) (by omega) hO FI.refl (fun j z1 z2 => by omega) (fun j hj => rfl) (by simp)
  intro k
  induction k with
  | zero =>
    intro i rs M1 hk hi c0 c1 hO1 hF1 hd1 he1 hv1
    have hW1 : Wh M1 a r := hA0.1.out hF1 (by omega)
    have ea : mI M1 a = mI M a := hF1.2.2.2.2.2.2 _ (by omega)
    refine k_MW_tenth_9 hO1 ⟨by omega, by omega⟩ ⟨by omega, by omega⟩ ⟨fun hc => ⟨hW1.1, ?_⟩, fun hc => by omega⟩
    refine (s_MW_trim (mI M1 a 1).toNat M1 hO1 hW1 (fun j hj => hd1 j (by omega) (by rw [ea] at hj; omega)) (by rw [ea]; omega)).mono (fun M2 h2 => ?_)
    obtain ⟨g1, g2, g3, g4, g5, g6⟩ := h2
    have hvv : 10 * wv M1 a + rs = wv M a := by
      unfold wv
      rw [ea]
      simp [dg] at hv1
      omega
    refine ⟨g1, g1, (hF1.mono (fun x q => Or.inr q)).trans (g2.mono (fun x q => Or.inl q)), ⟨g3, g4, g5⟩, by omega, by omega⟩
  | succ k ih =>
    intro i rs M1 hk hi c0 c1 hO1 hF1 hd1 he1 hv1
    have hW1 : Wh M1 a r := hA0.1.out hF1 (by omega)
    have ea : mI M1 a = mI M a := hF1.2.2.2.2.2.2 _ (by omega)
    have hda := wd i.toNat (by omega)
    refine k_MW_tenth_9 hO1 ⟨by omega, by omega⟩ ⟨by omega, by omega⟩ ?_
    rw [hW1.2.1, hW1.2.2.2.1, he1 i.toNat (by omega)]
    generalize hs : rs * 16777216 + mI M (a + 1) i.toNat = s
    have hs0 : 0 ≤ s := by omega
    rw [Int.tmod_eq_emod_of_nonneg hs0, Int.tdiv_eq_ediv_of_nonneg hs0]
    refine ⟨fun hc => by omega, fun hc => ⟨hW1.1, hW1.2.2.1, by omega, ⟨by omega, by omega⟩, by omega, fun M4 e4 => ?_⟩⟩
    have hF4 : FI (fun x => x = a + 1) M1 M4 := by rw [e4]; exact FI.ui rfl
    have hik : i.toNat = k := by omega
    have g2 : ∀ j, mI M4 (a + 1) j = if j = k then s / 10 else mI M1 (a + 1) j := fun j => by
      rw [e4, mI_UI, hik]
      by_cases z : j = k
      · rw [if_pos ⟨rfl, z⟩, if_pos z]
      · rw [if_neg (fun w => z w.2), if_neg z]
    refine ih (i + -1) _ M4 (by omega) (by omega) (by omega) (by omega) (by rw [e4]; exact mOk_UI hO1 ⟨by omega, by omega⟩) (hF1.trans hF4) (fun j z1 z2 => ?_) (fun j hj => ?_) ?_
    · rw [g2]
      split
      · omega
      · exact hd1 j (by omega) z2
    · rw [g2, if_neg (by omega)]
      exact he1 j (by omega)
    · obtain ⟨m, hm⟩ : ∃ m, (mI M a 1).toNat = k + 1 + m := ⟨(mI M a 1).toNat - (k + 1), by omega⟩
      have e5 : dg (mI M4 (a + 1)) k = dg (mI M1 (a + 1)) k := dg_congr _ (fun j hj => by rw [g2, if_neg (by omega)])
      have e6 : dg (mI M4 (a + 1)) (mI M a 1).toNat = dg (mI M1 (a + 1)) k + s / 10 * 16777216 ^ k + (dg (mI M1 (a + 1)) (mI M a 1).toNat - dg (mI M1 (a + 1)) (k + 1)) := by
        rw [hm, dg_split, dg_split (f := mI M1 (a + 1)), dg_congr (f := fun j => mI M4 (a + 1) (k + 1 + j)) (g := fun j => mI M1 (a + 1) (k + 1 + j)) _ (fun j hj => by show mI M4 (a + 1) (k + 1 + j) = _; rw [g2, if_neg (by omega)]), dg_succ (mI M4 (a + 1)) k, e5, g2, if_pos rfl]
        omega
      rw [dg_succ (mI M (a + 1)) k, dg_succ (mI M1 (a + 1)) k, Int.pow_succ] at hv1
      rw [e6, e5, dg_succ (mI M1 (a + 1)) k]
      have e7 : s * 16777216 ^ k = (10 * (s / 10) + s % 10) * 16777216 ^ k := by congr 1; omega
      have e8 : s * 16777216 ^ k = rs * 16777216 * 16777216 ^ k + mI M (a + 1) k * 16777216 ^ k := by rw [← hs, Int.add_mul, hik]
      rw [Int.add_mul, Int.mul_assoc] at e7
      rw [show rs * (16777216 ^ k * 16777216) = rs * 16777216 * 16777216 ^ k by rw [Int.mul_comm (16777216 ^ k), ← Int.mul_assoc]] at hv1
      omega
theorem s_MW_set {x : Int} (h0 : 0 ≤ x) (h1 : x < 4722366482869645213696) (hx : i64 x) (hO : mOk M) (hA : Wh M a r) (hr : 3 ≤ r) : Cv G y_MW_set d [vr a, vl x] M (fun M' => mOk M' ∧ FI (fun x => x = a ∨ x = a + 1) M M' ∧ W3 M' a r ∧ wv M' a = x) := by
  have hA0 := hA
  obtain ⟨w1, w2, w3, w4, w5, w6, w7⟩ := hA
  refine k_MW_set hO hx ⟨w1, fun M0 e0 => ?_⟩
  have hF0 : FI (fun x => x = a ∨ x = a + 1) M M0 := by rw [e0]; exact FI.ui (Or.inl rfl)
  suffices H : ∀ (k : Nat) (y : Int) (M1 : mM), 0 ≤ y → i64 y → y < 16777216 ^ k → mI M1 a 1 + k = 3 → 0 ≤ mI M1 a 1 → mOk M1 → FI (fun x => x = a ∨ x = a + 1) M M1 → WD M1 a → (y = 0 → WT M1 a) → wv M1 a + y * 16777216 ^ (mI M1 a 1).toNat = x → h_MW_set_7 G d a y M1 (fun M' => mOk M' ∧ FI (fun x => x = a ∨ x = a + 1) M M' ∧ W3 M' a r ∧ wv M' a = x) by
    have e1 : mI M0 a 1 = 0 := by rw [e0, mI_UI, if_pos ⟨rfl, rfl⟩]
    refine H 3 x M0 h0 hx (by show x < 4722366482869645213696; exact h1) (by omega) (by omega) (by rw [e0]; exact mOk_UI hO ⟨by omega, by omega⟩) hF0 (fun j hj => by omega) (fun _ q => by omega) ?_
    unfold wv
    rw [e1]
    simp [dg]
  intro k
  induction k with
  | zero =>
    intro y M1 y0 yi yk hn hn0 hO1 hF1 hd1 ht1 hv1
    have hy : y = 0 := by
      have : y < 1 := yk
      omega
    have hW1 : Wh M1 a r := hA0.fi hF1 (by omega) (by omega)
    refine k_MW_set_7 hO1 yi ⟨fun hc => ⟨hO1, hF1, ⟨hW1, hd1, ht1 hy⟩, by rw [hy] at hv1; omega⟩, fun hc => ?_⟩
    exfalso
    apply hc
    unfold cmpL
    rw [if_neg (by omega), if_pos hy]
    omega
  | succ k ih =>
    intro y M1 y0 yi yk hn hn0 hO1 hF1 hd1 ht1 hv1
    have hW1 : Wh M1 a r := hA0.fi hF1 (by omega) (by omega)
    refine k_MW_set_7 hO1 yi ?_
    rw [hW1.2.1, hW1.2.2.2.1]
    have hcm : cmpL y 0 ≤ 0 ↔ y = 0 := by
      unfold cmpL
      by_cases q : y = 0
      · rw [if_neg (by omega), if_pos q]; omega
      · rw [if_pos (by omega)]; omega
    rw [hcm, l_and24 y0 yi.2, show shrL y 24 = y / 2 ^ 24 from l_shr 24 (by decide) yi]
    refine ⟨fun hc => ⟨hO1, hF1, ⟨hW1, hd1, ht1 hc⟩, by rw [hc] at hv1; omega⟩, fun hc => ⟨hW1.1, hW1.2.2.1, by omega, ⟨by omega, by omega⟩, fun M2 e2 => ?_⟩⟩
    have f1 : mI M2 a 1 = mI M1 a 1 := by rw [e2, mI_UI, if_neg (by omega)]
    rw [f1]
    refine ⟨⟨by omega, by omega⟩, fun M3 e3 => ?_⟩
    have hO2 : mOk M2 := by rw [e2]; exact mOk_UI hO1 ⟨by omega, by omega⟩
    have hF2 : FI (fun x => x = a ∨ x = a + 1) M1 M2 := by rw [e2]; exact FI.ui (Or.inr rfl)
    have hF3 : FI (fun x => x = a ∨ x = a + 1) M2 M3 := by rw [e3]; exact FI.ui (Or.inl rfl)
    have g1 : mI M3 a 1 = mI M1 a 1 + 1 := by rw [e3, mI_UI, if_pos ⟨rfl, rfl⟩]
    have g2 : ∀ j, mI M3 (a + 1) j = if j = (mI M1 a 1).toNat then y % 16777216 else mI M1 (a + 1) j := fun j => by
      rw [e3, mI_UI, if_neg (by omega), e2, mI_UI]
      by_cases z : j = (mI M1 a 1).toNat
      · rw [if_pos ⟨rfl, z⟩, if_pos z]
      · rw [if_neg (fun w => z w.2), if_neg z]
    rw [Int.pow_succ] at yk
    have hB := B_pos k
    have hyk : y / 2 ^ 24 < 16777216 ^ k := by
      have : y / 16777216 < 16777216 ^ k := Int.ediv_lt_of_lt_mul (by decide) (by omega)
      exact this
    have h24 : (2 : Int) ^ 24 = 16777216 := by decide
    rw [h24] at hyk ⊢
    refine ih (y / 16777216) M3 (by omega) (by have := yi.2; unfold i64; omega) hyk (by omega) (by omega) (by rw [e3]; exact mOk_UI hO2 ⟨by omega, by omega⟩) ((hF1.trans hF2).trans hF3) (fun j hj => ?_) (fun hy z => ?_) ?_
    · rw [g2]
      split
      · omega
      · exact hd1 j (by omega)
    · rw [g1, g2, if_pos (by omega)]
      omega
    · unfold wv at hv1 ⊢
      rw [g1, show (mI M1 a 1 + 1).toNat = (mI M1 a 1).toNat + 1 by first | rfl | omega, dg, g2, if_pos rfl, dg_congr (g := mI M1 (a + 1)) _ (fun j hj => by rw [g2, if_neg (by omega)]), Int.pow_succ]
      have e7 : y * 16777216 ^ (mI M1 a 1).toNat = (y % 16777216 + 16777216 * (y / 16777216)) * 16777216 ^ (mI M1 a 1).toNat := by congr 1; omega
      rw [Int.add_mul] at e7
      rw [show y / 16777216 * (16777216 ^ (mI M1 a 1).toNat * 16777216) = 16777216 * (y / 16777216) * 16777216 ^ (mI M1 a 1).toNat by rw [Int.mul_comm (16777216 ^ (mI M1 a 1).toNat), ← Int.mul_assoc, Int.mul_comm (y / 16777216)]]
      omega
end W7
end
section
/-! Bits of ints, the reference's bits. -/
theorem i_shr {x : Int} (k : Nat) (hk : k < 32) (h : i32 x) : shrI x k = x / 2 ^ k := by
  unfold shrI
  have e : (Int32.ofInt (k : Int) &&& 31) = nI k := by
    have : ∀ k, k < 32 → ((Int32.ofInt ((k : Nat) : Int) &&& 31) = nI k) := by decide
    exact this k hk
  rw [e]
  have e2 : ∀ k, k < 32 → ((nI k).toBitVec.smod 32).toNat = k := by decide
  rw [pk_shr _ _ k (e2 k hk), i32_toInt h, Int.shiftRight_eq_div_pow]
  norm_cast
theorem i_and {x : Int} (k : Nat) (hk : k < 32) (m : Int) (hm : m = 2 ^ k - 1) (h : i32 m) : andI x m = x % 2 ^ k := by
  unfold andI
  have hmask : (Int32.ofInt m).toBitVec.toNat = 2 ^ k - 1 := by
    have h1 := i32_toInt h
    have h2 : (Int32.ofInt m).toBitVec.toInt = m := h1
    rw [BitVec.toInt_eq_toNat_cond] at h2
    have h3 := (Int32.ofInt m).toBitVec.isLt
    have h4 : (2 : Int) ^ k = ((2 ^ k : Nat) : Int) := by norm_cast
    have h5 : 1 ≤ 2 ^ k := Nat.one_le_two_pow
    rw [h4] at hm
    unfold i32 at h
    split at h2 <;> omega
  rw [pk_and (Int32.ofInt x) k hmask]
  have hb : (Int32.ofInt x).toBitVec.toNat = (x % 4294967296).toNat := by
    show (BitVec.ofInt 32 x).toNat = _
    rw [BitVec.toNat_ofInt]
    rfl
  rw [hb]
  have hk31 : k ≤ 31 := by omega
  have hp : 2 ^ k ≤ 2 ^ 31 := Nat.pow_le_pow_right (by decide) hk31
  have hp0 : 0 < 2 ^ k := Nat.two_pow_pos k
  have hlt : (x % 4294967296).toNat % 2 ^ k < 2 ^ 31 := Nat.lt_of_lt_of_le (Nat.mod_lt _ hp0) hp
  rw [nI_toInt hlt]
  have hd : (2 : Int) ^ k ∣ 4294967296 := by
    refine ⟨2 ^ (32 - k), ?_⟩
    rw [← Int.pow_add, show k + (32 - k) = 32 by first | rfl | omega]
    decide
  have h4 : ((2 ^ k : Nat) : Int) = (2 : Int) ^ k := by norm_cast
  rw [Int.natCast_emod, h4, Int.toNat_of_nonneg (Int.emod_nonneg _ (by decide)), Int.emod_emod_of_dvd _ hd]
section W8
variable {G : mG} {d a r : Nat} {M : mM}
theorem pow24 (q : Nat) : (16777216 : Int) ^ q = 2 ^ (24 * q) := by
  rw [Int.pow_mul]
  rfl
theorem s_MW_bit {k : Int} (h0 : 0 ≤ k) (hk : i32 k) (hO : mOk M) (hA : W3 M a r) : Ci G y_MW_bit d [vr a, vi k] M (fun x M' => M' = M ∧ x = if wv M a / 2 ^ k.toNat % 2 = 1 then 1 else 0) := by
  have hA0 := hA
  obtain ⟨⟨w1, w2, w3, w4, w5, w6, w7⟩, wd, wt⟩ := hA
  refine k_MW_bit hO hk ?_
  rw [w2, w4, Int.tdiv_eq_ediv_of_nonneg h0, Int.tmod_eq_emod_of_nonneg h0]
  refine ⟨w1, fun hc => ⟨w3, by omega⟩, fun v hv => ⟨rfl, ?_⟩⟩
  rw [hv]
  have hsp : k.toNat = 24 * (k / 24).toNat + (k % 24).toNat := by omega
  by_cases q : mI M a 1 ≤ k / 24
  · have h1 := hA0.lt
    have h2 := hA0.nonneg
    have h3 := pow_mono (m := (mI M a 1).toNat) (n := (k / 24).toNat) (by omega)
    have h4 : wv M a < 2 ^ k.toNat := by
      rw [hsp, Int.pow_add, ← pow24]
      have : (16777216 : Int) ^ (k / 24).toNat * 1 ≤ 16777216 ^ (k / 24).toNat * 2 ^ (k % 24).toNat := Int.mul_le_mul_of_nonneg_left (by have : (0 : Int) < 2 ^ (k % 24).toNat := Int.pow_pos (by decide); omega) (Int.le_of_lt (B_pos _))
      omega
    rw [if_pos (Or.inl q), Int.ediv_eq_zero_of_lt h2 h4]
    rfl
  · have hdd := wd (k / 24).toNat (by omega)
    have e1 : andI (shrI (mI M (a + 1) (k / 24).toNat) (k % 24)) 1 = mI M (a + 1) (k / 24).toNat / 2 ^ (k % 24).toNat % 2 := by
      have := i_shr (x := mI M (a + 1) (k / 24).toNat) (k % 24).toNat (by omega) ⟨by omega, by omega⟩
      rw [show (((k % 24).toNat : Nat) : Int) = k % 24 by first | rfl | omega] at this
      rw [this, i_and 1 (by decide) 1 (by decide) ⟨by decide, by decide⟩]
      rfl
    have e2 : wv M a / 2 ^ k.toNat % 2 = mI M (a + 1) (k / 24).toNat / 2 ^ (k % 24).toNat % 2 := by
      obtain ⟨m, hm⟩ : ∃ m, (mI M a 1).toNat = (k / 24).toNat + 1 + m := ⟨(mI M a 1).toNat - ((k / 24).toNat + 1), by omega⟩
      unfold wv
      rw [hm, dg_split, dg_succ, Int.pow_succ, hsp, Int.pow_add, ← pow24]
      have hlo := dg_lt (f := mI M (a + 1)) (k / 24).toNat (fun j hj => (wd j (by omega)).2)
      have hlo0 := dg_nonneg (f := mI M (a + 1)) (k / 24).toNat (fun j hj => (wd j (by omega)).1)
      generalize hT : dg (fun j => mI M (a + 1) ((k / 24).toNat + 1 + j)) m = T
      generalize hL : dg (mI M (a + 1)) (k / 24).toNat = Lo at hlo hlo0 ⊢
      generalize hDg : mI M (a + 1) (k / 24).toNat = Dg at hdd ⊢
      have hB := B_pos (k / 24).toNat
      generalize hP : (16777216 : Int) ^ (k / 24).toNat = P at hB hlo ⊢
      rw [← Int.ediv_ediv_of_nonneg (Int.le_of_lt hB)]
      have e3 : (Lo + Dg * P + T * (P * 16777216)) / P = Dg + T * 16777216 := by
        rw [show Lo + Dg * P + T * (P * 16777216) = Lo + (Dg + T * 16777216) * P by rw [Int.add_mul, Int.mul_comm P, ← Int.mul_assoc]; omega, Int.add_mul_ediv_right _ _ (by omega), Int.ediv_eq_zero_of_lt hlo0 hlo]
        omega
      rw [e3]
      have hk24 : (k % 24).toNat < 24 := by omega
      generalize hs : (k % 24).toNat = s at hk24 ⊢
      have e4 : (16777216 : Int) = 2 ^ s * (2 * 2 ^ (23 - s)) := by
        rw [← Int.pow_succ', ← Int.pow_add, show s + (23 - s + 1) = 24 by first | rfl | omega]
        decide
      have hp2 : (0 : Int) < 2 ^ s := Int.pow_pos (by decide)
      rw [e4, show Dg + T * (2 ^ s * (2 * 2 ^ (23 - s))) = Dg + (T * 2 ^ (23 - s) * 2) * 2 ^ s by
        rw [Int.mul_comm (2 ^ s), ← Int.mul_assoc, ← Int.mul_assoc, Int.mul_assoc T 2, Int.mul_comm 2 (2 ^ (23 - s)), ← Int.mul_assoc], Int.add_mul_ediv_right _ _ (by omega)]
      omega
    rw [e1, e2]
    by_cases z : mI M (a + 1) (k / 24).toNat / 2 ^ (k % 24).toNat % 2 = 1
    · rw [if_neg (by intro w; rcases w with w | w; exact q w; exact w z), if_pos z]
    · rw [if_pos (Or.inr z), if_neg z]
/-- how many bits -/
theorem s_MW_places (hO : mOk M) (hA : W3 M a r) : Ci G y_MW_places d [vr a] M (fun x M' => M' = M ∧ 0 ≤ x ∧ x ≤ 24 * r ∧ wv M a < 2 ^ x.toNat ∧ (0 < x → 2 ^ (x - 1).toNat ≤ wv M a)) := by
  have hA0 := hA
  obtain ⟨⟨w1, w2, w3, w4, w5, w6, w7⟩, wd, wt⟩ := hA
  refine k_MW_places hO ?_
  rw [w2, w4]
  refine ⟨w1, fun hc => ⟨w3, by omega⟩, fun v hv => ?_⟩
  by_cases hz : mI M a 1 = 0
  · rw [if_pos hz] at hv
    rw [hz, hv]
    refine k_MW_places_33 hO ⟨by omega, by omega⟩ ⟨by omega, by omega⟩ ⟨fun hc => ⟨w1, fun x hx => ?_⟩, fun hc => by omega⟩
    rw [if_pos hz] at hx
    have h1 := hA0.lt
    rw [hz] at h1
    subst hx
    exact ⟨rfl, by omega, by omega, h1, fun q => by omega⟩
  · rw [if_neg hz] at hv
    have hdd := wd (mI M a 1 - 1).toNat (by omega)
    have hne := wt (by omega)
    have hlo := dg_lt (f := mI M (a + 1)) (mI M a 1 - 1).toNat (fun j hj => (wd j (by omega)).2)
    have hlo0 := dg_nonneg (f := mI M (a + 1)) (mI M a 1 - 1).toNat (fun j hj => (wd j (by omega)).1)
    have hval : wv M a = dg (mI M (a + 1)) (mI M a 1 - 1).toNat + v * 2 ^ (24 * (mI M a 1 - 1).toNat) := by
      unfold wv
      rw [show (mI M a 1).toNat = (mI M a 1 - 1).toNat + 1 by first | rfl | omega, dg_succ, hv, pow24]
    rw [pow24] at hlo
    have hP : (0 : Int) < 2 ^ (24 * (mI M a 1 - 1).toNat) := Int.pow_pos (by decide)
    -- the loop over the highest digit: what is left of it after s bits
    suffices H : ∀ (n : Nat) (y : Int) (s : Nat), 0 ≤ y → y < 2 ^ n → s + n = 24 → y = v / 2 ^ s → (y = 0 → 0 < s ∧ 0 < v / 2 ^ (s - 1)) → h_MW_places_33 G d a (24 * (mI M a 1 - 1) + s) y M (fun x M' => M' = M ∧ 0 ≤ x ∧ x ≤ 24 * r ∧ wv M a < 2 ^ x.toNat ∧ (0 < x → 2 ^ (x - 1).toNat ≤ wv M a)) by
      have h9 := H 24 v 0 (by omega) (by rw [hv]; exact hdd.2) rfl (by simp) (fun q => by omega)
      rw [show 24 * (mI M a 1 - 1) + ((0 : Nat) : Int) = 24 * (mI M a 1 - 1) by first | rfl | omega] at h9
      exact h9
    have fin : ∀ (s : Nat), s ≤ 24 → v / 2 ^ s = 0 → 0 < s → 0 < v / 2 ^ (s - 1) → h_MW_places_33 G d a (24 * (mI M a 1 - 1) + s) 0 M (fun x M' => M' = M ∧ 0 ≤ x ∧ x ≤ 24 * r ∧ wv M a < 2 ^ x.toNat ∧ (0 < x → 2 ^ (x - 1).toNat ≤ wv M a)) := by
      intro s hs24 hvs hs0 hvs1
      refine k_MW_places_33 hO ⟨by omega, by omega⟩ ⟨by omega, by omega⟩ ⟨fun hc => ⟨w1, fun x hx => ?_⟩, fun hc => by omega⟩
      rw [if_neg hz] at hx
      subst hx
      have hp2 : (0 : Int) < 2 ^ s := Int.pow_pos (by decide)
      have hp3 : (0 : Int) < 2 ^ (s - 1) := Int.pow_pos (by decide)
      have b1 : v < 2 ^ s := by
        have := Int.lt_ediv_add_one_mul_self v hp2
        rw [hvs] at this
        omega
      have b2 : 2 ^ (s - 1) ≤ v := by
        have := Int.ediv_mul_le v (show (2 : Int) ^ (s - 1) ≠ 0 by omega)
        have h2 : 1 * 2 ^ (s - 1) ≤ v / 2 ^ (s - 1) * 2 ^ (s - 1) := Int.mul_le_mul_of_nonneg_right (by omega) (Int.le_of_lt hp3)
        omega
      refine ⟨rfl, by omega, by omega, ?_, fun _ => ?_⟩
      · rw [hval, show (24 * (mI M a 1 - 1) + (s : Int)).toNat = 24 * (mI M a 1 - 1).toNat + s by first | rfl | omega, Int.pow_add]
        have : (v + 1) * 2 ^ (24 * (mI M a 1 - 1).toNat) ≤ 2 ^ s * 2 ^ (24 * (mI M a 1 - 1).toNat) := Int.mul_le_mul_of_nonneg_right (by omega) (Int.le_of_lt hP)
        rw [Int.add_mul] at this
        rw [Int.mul_comm (2 ^ (24 * (mI M a 1 - 1).toNat))]
        omega
      · rw [hval, show (24 * (mI M a 1 - 1) + (s : Int) - 1).toNat = 24 * (mI M a 1 - 1).toNat + (s - 1) by first | rfl | omega, Int.pow_add]
        have : 2 ^ (s - 1) * 2 ^ (24 * (mI M a 1 - 1).toNat) ≤ v * 2 ^ (24 * (mI M a 1 - 1).toNat) := Int.mul_le_mul_of_nonneg_right b2 (Int.le_of_lt hP)
        rw [Int.mul_comm (2 ^ (24 * (mI M a 1 - 1).toNat))]
        omega
    intro n
    induction n with
    | zero =>
      intro y s y0 yn hsn hy hy0
      have hyz : y = 0 := by
        have : y < 1 := yn
        omega
      subst hyz
      exact fin s (by omega) hy.symm (hy0 rfl).1 (hy0 rfl).2
    | succ n ih =>
      intro y s y0 yn hsn hy hy0
      by_cases hyz : y = 0
      · subst hyz
        exact fin s (by omega) hy.symm (hy0 rfl).1 (hy0 rfl).2
      · have hyb : y ≤ v := by rw [hy]; exact Int.ediv_le_self _ (by omega)
        refine k_MW_places_33 hO ⟨by omega, by omega⟩ ⟨by omega, by omega⟩ ⟨fun hc => by omega, fun hc => ?_⟩
        rw [Int.tdiv_eq_ediv_of_nonneg y0, show 24 * (mI M a 1 - 1) + (s : Int) + 1 = 24 * (mI M a 1 - 1) + ((s + 1 : Nat) : Int) by first | rfl | omega]
        rw [Int.pow_succ] at yn
        refine ih (y / 2) (s + 1) (by omega) (by omega) (by omega) ?_ (fun q => ⟨by omega, ?_⟩)
        · rw [hy, Int.pow_succ, Int.ediv_ediv_of_nonneg (Int.le_of_lt (Int.pow_pos (by decide)))]
        · rw [show s + 1 - 1 = s by first | rfl | omega, ← hy]
          omega
end W8
end
section
/-! Frames with new cells; the reference's growing lists. -/
/-- P: lists that may have grown; S: other cells whose numbers may have changed -/
def FN (P S : Nat → Prop) (M M' : mM) : Prop := (mZ M ≤ mZ M' ∧ ∀ p, P p → p < mZ M) ∧ (∀ x, x < mZ M → mK M' x = mK M x ∧ mN M' x = mN M x) ∧ (∀ x, x < mZ M → ¬ P x → mR M' x = mR M x) ∧ (∀ x, x < mZ M → ¬ P x → (∀ p, P p → x ≠ mR M p 0) → ¬ S x → mI M' x = mI M x ∧ mL M' x = mL M x) ∧ (∀ p, P p → mR M' p 0 = mR M p 0 ∨ mZ M ≤ mR M' p 0)
section FN
variable {P S P' S' : Nat → Prop} {M M1 M2 : mM}
theorem FN.refl (h : ∀ p, P p → p < mZ M) : FN P S M M := ⟨⟨Nat.le_refl _, h⟩, fun _ _ => ⟨rfl, rfl⟩, fun _ _ _ => rfl, fun _ _ _ _ _ => ⟨rfl, rfl⟩, fun _ _ => Or.inl rfl⟩
theorem FN.trans (h : FN P S M M1) (k : FN P S M1 M2) : FN P S M M2 := by
  obtain ⟨⟨h1, h0⟩, h2, h3, h4, h5⟩ := h
  obtain ⟨⟨k1, k0⟩, k2, k3, k4, k5⟩ := k
  refine ⟨⟨by omega, h0⟩, fun x hx => ⟨((k2 x (by omega)).1).trans (h2 x hx).1, ((k2 x (by omega)).2).trans (h2 x hx).2⟩, fun x hx hp => (k3 x (by omega) hp).trans (h3 x hx hp), fun x hx hp hq hs => ?_, fun p hp => ?_⟩
  · have a := h4 x hx hp hq hs
    have b := k4 x (by omega) hp (fun p hp2 e => by
      rcases h5 p hp2 with w | w
      · exact hq p hp2 (e.trans w)
      · omega) hs
    exact ⟨b.1.trans a.1, b.2.trans a.2⟩
  · rcases h5 p hp with w | w
    · rcases k5 p hp with u | u
      · exact Or.inl (u.trans w)
      · exact Or.inr (by omega)
    · rcases k5 p hp with u | u
      · exact Or.inr (by omega)
      · exact Or.inr (by omega)
theorem FN.mono (h : FN P S M M1) (hp : ∀ p, P p → P' p) (hs : ∀ x, S x → S' x) (h0 : ∀ p, P' p → p < mZ M) : FN P' S' M M1 := by
  obtain ⟨⟨h1, -⟩, h2, h3, h4, h5⟩ := h
  refine ⟨⟨h1, h0⟩, h2, fun x hx hq => h3 x hx (fun w => hq (hp x w)), fun x hx hq hr hs' => h4 x hx (fun w => hq (hp x w)) (fun p w => hr p (hp p w)) (fun w => hs' (hs x w)), fun p hq => ?_⟩
  by_cases z : P p
  · exact h5 p z
  · exact Or.inl (by rw [h3 p (h0 p hq) z])
theorem FI.fn (h : FI S M M1) : FN (fun _ => False) S M M1 := by
  obtain ⟨h1, h2, h3, h4, h5, h6, h7⟩ := h
  exact ⟨⟨by rw [h5]; exact Nat.le_refl _, fun p q => q.elim⟩, fun x _ => ⟨by rw [h1], by rw [h2]⟩, fun x _ _ => by rw [h3], fun x _ _ _ q => ⟨h7 x q, by rw [h4]⟩, fun p q => q.elim⟩
end FN
/-- how much a list holds, at most -/
def cp (M : mM) (p : Nat) : Nat := mN M (mR M p 0)
/-- a growing list -/
def Nu (M : mM) (p : Nat) : Prop := mK M p = 15 ∧ mK M (mR M p 0) = 30 ∧ (p < mZ M ∧ mR M p 0 < mZ M) ∧ (0 ≤ mI M p 1 ∧ mI M p 1 ≤ cp M p) ∧ (16 ≤ cp M p ∧ cp M p % 16 = 0 ∧ cp M p ≤ 2097152)
/-- the list's length, and what stands at j -/
def ln (M : mM) (p : Nat) : Int := mI M p 1
def nt (M : mM) (p j : Nat) : Int := mI M (mR M p 0) j
def psum (f : Nat → Nat) : List Nat → Nat
  | [] => 0
  | a :: l => f a + psum f l
theorem psum_congr {f g : Nat → Nat} : ∀ (l : List Nat), (∀ q, q ∈ l → f q = g q) → psum f l = psum g l
  | [], _ => rfl
  | a :: l, h => by rw [psum, psum, h a (List.mem_cons_self ..), psum_congr l (fun q hq => h q (List.mem_cons_of_mem _ hq))]
theorem psum_one {f g : Nat → Nat} {p : Nat} : ∀ (l : List Nat), l.Nodup → p ∈ l → (∀ q, q ∈ l → q ≠ p → g q = f q) → psum g l + f p = psum f l + g p
  | [], _, hp, _ => by simp at hp
  | a :: l, hn, hp, h => by
    rw [psum, psum]
    have hn' := List.nodup_cons.1 hn
    by_cases z : a = p
    · subst z
      rw [psum_congr l (fun q hq => h q (List.mem_cons_of_mem _ hq) (fun w => hn'.1 (by rw [← w]; exact hq)))]
      omega
    · have hp' : p ∈ l := by
        rcases List.mem_cons.1 hp with w | w
        · exact absurd w.symm z
        · exact w
      have a1 := psum_one (f := f) (g := g) l hn'.2 hp' (fun q hq => h q (List.mem_cons_of_mem _ hq))
      rw [h a (List.mem_cons_self ..) z]
      omega
/-- the room that the lists of L have taken -/
def RmL (L : List Nat) (M M' : mM) : Prop := mS M' + 2 * psum (cp M) L ≤ mS M + 2 * psum (cp M') L ∧ mZ M' + psum (fun p => cp M p / 16) L ≤ mZ M + psum (fun p => cp M' p / 16) L
theorem RmL.trans {L : List Nat} {M M1 M2 : mM} (h : RmL L M M1) (k : RmL L M1 M2) : RmL L M M2 := by
  obtain ⟨h1, h2⟩ := h
  obtain ⟨k1, k2⟩ := k
  exact ⟨by omega, by omega⟩
theorem RmL.fi {S : Nat → Prop} {L : List Nat} {M M' : mM} (h : FI S M M') : RmL L M M' := by
  obtain ⟨h1, h2, h3, h4, h5, h6, h7⟩ := h
  have e : cp M' = cp M := by funext p; unfold cp; rw [h2, h3]
  unfold RmL
  rw [e, h5, h6]
  omega
/-- the lists of L lie apart -/
def Apt (L : List Nat) (M : mM) : Prop := ∀ p q, p ∈ L → q ∈ L → p ≠ q → mR M p 0 ≠ mR M q 0
section NU
variable {G : mG} {d p : Nat} {M : mM}
theorem Nu.fn {P S : Nat → Prop} {M' : mM} (h : Nu M p) (f : FN P S M M') (hp : ¬ P p) (ha : ∀ q, P q → mR M p 0 ≠ mR M q 0) (ha2 : ¬ P (mR M p 0)) (hq : ∀ q, P q → p ≠ mR M q 0) (hs : ¬ S p) (hs2 : ¬ S (mR M p 0)) : Nu M' p ∧ ln M' p = ln M p ∧ (∀ j, nt M' p j = nt M p j) ∧ cp M' p = cp M p ∧ mR M' p = mR M p := by
  obtain ⟨h1, h2, ⟨h3, h4⟩, h5, h6⟩ := h
  obtain ⟨⟨f1, f0⟩, f2, f3, f4, f5⟩ := f
  have e1 := f3 p h3 hp
  have e2 := f4 p h3 hp (fun q w => hq q w) hs
  have e3 := f4 (mR M p 0) h4 ha2 ha hs2
  have e4 := f2 p h3
  have e5 := f2 (mR M p 0) h4
  have ec : cp M' p = cp M p := by unfold cp; rw [e1, e5.2]
  refine ⟨⟨by rw [e4.1]; exact h1, by rw [e1, e5.1]; exact h2, ⟨by omega, by rw [e1]; omega⟩, by rw [e2.1, ec]; exact h5, by rw [ec]; exact h6⟩, by unfold ln; rw [e2.1], fun j => by unfold nt; rw [e1, e3.1], ec, e1⟩
/-- what adding leaves behind -/
def adB (B : Nat) (M : mM) (p : Nat) (v : Int) (M' : mM) : Prop := mOk M' ∧ Nu M' p ∧ FN (fun x => x = p) (fun _ => False) M M' ∧ ln M' p = ln M p + 1 ∧ (∀ j : Nat, (j : Int) < ln M p → nt M' p j = nt M p j) ∧ nt M' p (ln M p).toNat = v ∧ (mS M' + 2 * cp M p = mS M + 2 * cp M' p ∧ mZ M' + cp M p / 16 ≤ mZ M + cp M' p / 16) ∧ (cp M' p = cp M p ∨ cp M' p ≤ 2 * B)
def adQ (M : mM) (p : Nat) (v : Int) (M' : mM) : Prop := adB 32768 M p v M'
theorem s_MN_addB {v : Int} {B : Nat} (hv : i32 v) (hO : mOk M) (hN : Nu M p) (hsz : ln M p ≤ B) (hB : B ≤ 65536) : Cv G y_MN_add d [vr p, vi v] M (adB B M p v) := by
  obtain ⟨h1, h2, ⟨h3, h4⟩, ⟨h5, h5'⟩, ⟨h6, h7, h8⟩⟩ := id hN
  unfold ln at hsz
  have hne : p ≠ mR M p 0 := fun w => by rw [← w, h1] at h2; omega
  have ecp : mN M (mR M p 0) = cp M p := rfl
  refine k_MN_add hO hv ⟨h1, h2, ⟨by omega, by omega⟩, fun e => ⟨⟨by omega, by omega⟩, fun M1 e1 => ?_⟩, fun e => ⟨⟨h5, by omega⟩, fun M1 e1 => ?_⟩⟩
  · have o1 : mOk M1 := by rw [e1]; exact mOk_New hO
    have z1 : mZ M1 = mZ M + 1 := by rw [e1]; rfl
    have c1 : mS M1 = mS M + (2 * mI M p 1).toNat := by rw [e1]; rfl
    have k1 : ∀ x, mK M1 x = if x = mZ M then 30 else mK M x := fun x => by rw [e1]; rfl
    have n1 : ∀ x, mN M1 x = if x = mZ M then (2 * mI M p 1).toNat else mN M x := fun x => by rw [e1]; rfl
    have r1 : ∀ x, x < mZ M → mR M1 x = mR M x := fun x hx => by funext j; rw [e1, mR_New, if_neg (by omega)]
    have i1 : ∀ x, x < mZ M → mI M1 x = mI M x := fun x hx => by funext j; rw [e1, mI_New, if_neg (by omega)]
    have l1 : ∀ x, x < mZ M → mL M1 x = mL M x := fun x hx => by funext j; rw [e1, mL_New, if_neg (by omega)]
    clear e1
    suffices H : ∀ (c l : Nat) (M2 : mM), (l : Int) + c = mI M p 1 → mOk M2 → FI (fun x => x = mZ M) M1 M2 → (∀ j, j < l → mI M2 (mZ M) j = mI M (mR M p 0) j) → h_MN_add_23 G d p v (mZ M) l M2 (adB B M p v) from
      H (mI M p 1).toNat 0 M1 (by omega) o1 FI.refl (fun j hj => by omega)
    intro c
    induction c with
    | zero =>
      intro l M2 hl o2 f2 h2'
      obtain ⟨f2k, f2n, f2r, f2l, f2z, f2s, f2i⟩ := f2
      have el : (mI M p 1).toNat = l := by omega
      have ip : mI M2 p = mI M p := by rw [f2i p (by omega)]; exact i1 p h3
      have kp : mK M2 p = 15 := by rw [f2k, k1, if_neg (by omega)]; exact h1
      refine k_MN_add_23 o2 hv ⟨by omega, by omega⟩ ?_
      rw [ip]
      refine ⟨kp, fun _ M3 e3 => ?_, fun w => by omega⟩
      have r3 : ∀ x j, mR M3 x j = if x = p ∧ j = 0 then mZ M else mR M2 x j := fun x j => by rw [e3, mR_UR]
      have o3 : mOk M3 := by rw [e3]; exact mOk_UR o2
      have i3 : mI M3 = mI M2 := by rw [e3]; rfl
      have rp3 : mR M3 p 0 = mZ M := by rw [r3, if_pos ⟨rfl, rfl⟩]
      have k3 : mK M3 = mK M2 := by rw [e3]; rfl
      have n3 : mN M3 = mN M2 := by rw [e3]; rfl
      have kz : mK M3 (mZ M) = 30 := by rw [k3, f2k, k1, if_pos rfl]
      have nz : mN M3 (mZ M) = (2 * mI M p 1).toNat := by rw [n3, f2n, n1, if_pos rfl]
      rw [rp3, i3, ip, el]
      refine ⟨kz, by omega, fun M4 e4 => ?_⟩
      have o4 : mOk M4 := by rw [e4]; exact mOk_UI o3 hv
      have i4 : ∀ x j, mI M4 x j = if x = mZ M ∧ j = l then v else mI M2 x j := fun x j => by rw [e4, mI_UI, i3]
      have ip4 : mI M4 p 1 = mI M p 1 := by rw [i4, if_neg (fun w => by have := w.1; omega), ip]
      refine ⟨by rw [ip4]; exact ⟨by omega, by omega⟩, fun M5 e5 => ?_⟩
      rw [ip4] at e5
      have o5 : mOk M5 := by rw [e5]; exact mOk_UI o4 ⟨by omega, by omega⟩
      have i5 : ∀ x j, mI M5 x j = if x = p ∧ j = 1 then mI M p 1 + 1 else if x = mZ M ∧ j = l then v else mI M2 x j := fun x j => by rw [e5, mI_UI, i4]
      have k5 : ∀ x, mK M5 x = if x = mZ M then 30 else mK M x := fun x => by rw [e5, mK_UI, e4, mK_UI, k3, f2k, k1]
      have n5 : ∀ x, mN M5 x = if x = mZ M then (2 * mI M p 1).toNat else mN M x := fun x => by rw [e5, mN_UI, e4, mN_UI, n3, f2n, n1]
      have r5 : ∀ x j, mR M5 x j = if x = p ∧ j = 0 then mZ M else mR M2 x j := fun x j => by rw [e5, mR_UI, e4, mR_UI, r3]
      have l5 : mL M5 = mL M2 := by rw [e5, mL_UI, e4, mL_UI, e3]; rfl
      have z5 : mZ M5 = mZ M + 1 := by rw [e5, mZ_UI, e4, mZ_UI, e3, mZ_UR, f2z, z1]
      have c5 : mS M5 = mS M + (2 * mI M p 1).toNat := by rw [e5, mS_UI, e4, mS_UI, e3, mS_UR, f2s, c1]
      have rp5 : mR M5 p 0 = mZ M := by rw [r5, if_pos ⟨rfl, rfl⟩]
      have ec : cp M5 p = (2 * mI M p 1).toNat := by unfold cp; rw [rp5, n5, if_pos rfl]
      have il : mI M5 p 1 = mI M p 1 + 1 := by rw [i5, if_pos ⟨rfl, rfl⟩]
      refine ⟨o5, ⟨by rw [k5, if_neg (by omega)]; exact h1, by rw [rp5, k5, if_pos rfl], ⟨by omega, by omega⟩, ⟨by omega, by omega⟩, ⟨by omega, by omega, by omega⟩⟩, ⟨⟨by omega, fun q w => by omega⟩, fun x hx => ⟨by rw [k5, if_neg (by omega)], by rw [n5, if_neg (by omega)]⟩, fun x hx w => ?_, fun x hx w1 w2 _ => ⟨?_, by rw [l5, f2l]; exact l1 x hx⟩, fun q w => Or.inr (by rw [w, rp5]; omega)⟩, il, fun j hj => ?_, ?_, ⟨by omega, by omega⟩, Or.inr (by omega)⟩
      · funext j
        rw [r5, if_neg (fun q => w q.1), f2r, r1 x hx]
      · funext j
        rw [i5, if_neg (fun w => w1 w.1), if_neg (fun w => by have := w.1; omega), f2i x (by omega), i1 x hx]
      · unfold nt
        unfold ln at hj
        rw [rp5, i5, if_neg (fun w => by have := w.1; omega), if_neg (fun w => by have := w.2; omega)]
        exact h2' j (by omega)
      · unfold nt ln
        rw [rp5, i5, if_neg (fun w => by have := w.1; omega), if_pos ⟨rfl, el⟩]
    | succ c ih =>
      intro l M2 hl o2 f2 h2'
      obtain ⟨f2k, f2n, f2r, f2l, f2z, f2s, f2i⟩ := id f2
      have ip : mI M2 p = mI M p := by rw [f2i p (by omega)]; exact i1 p h3
      have rp : mR M2 p 0 = mR M p 0 := by rw [f2r, r1 p h3]
      have ia : mI M2 (mR M p 0) = mI M (mR M p 0) := by rw [f2i _ (by omega)]; exact i1 _ h4
      refine k_MN_add_23 o2 hv ⟨by omega, by omega⟩ ?_
      rw [ip, rp, ia, f2k, f2n, k1, k1, k1, n1, n1, if_neg (show ¬ p = mZ M by first | rfl | omega), if_neg (show ¬ mR M p 0 = mZ M by first | rfl | omega), if_pos rfl, if_neg (show ¬ mR M p 0 = mZ M by first | rfl | omega), if_pos rfl, Int.toNat_natCast]
      refine ⟨h1, fun w => by omega, fun _ => ⟨h2, by omega, rfl, by omega, fun M3 e3 => ?_⟩⟩
      have f3 : FI (fun x => x = mZ M) M2 M3 := by rw [e3]; exact FI.ui rfl
      have o3 : mOk M3 := by rw [e3]; exact mOk_UI o2 (hO _ _).1
      refine ih (l + 1) M3 (by omega) o3 (f2.trans f3) (fun j hj => ?_)
      rw [e3, mI_UI]
      by_cases z : j = l
      · rw [if_pos ⟨rfl, z⟩, z]
      · rw [if_neg (fun w => z w.2)]
        exact h2' j (by omega)
  · have o1 : mOk M1 := by rw [e1]; exact mOk_UI hO hv
    have s1 : mI M1 p 1 = mI M p 1 := by rw [e1, mI_UI, if_neg (fun w => hne w.1)]
    refine ⟨by rw [s1]; exact ⟨by omega, by omega⟩, fun M2 e2 => ?_⟩
    rw [s1] at e2
    have o2 : mOk M2 := by rw [e2]; exact mOk_UI o1 ⟨by omega, by omega⟩
    have k2 : mK M2 = mK M := by rw [e2, e1]; rfl
    have n2 : mN M2 = mN M := by rw [e2, e1]; rfl
    have r2 : mR M2 = mR M := by rw [e2, e1]; rfl
    have l2 : mL M2 = mL M := by rw [e2, e1]; rfl
    have z2 : mZ M2 = mZ M := by rw [e2, e1]; rfl
    have c2 : mS M2 = mS M := by rw [e2, e1]; rfl
    have i2 : ∀ x j, mI M2 x j = if x = p ∧ j = 1 then mI M p 1 + 1 else if x = mR M p 0 ∧ j = (mI M p 1).toNat then v else mI M x j := fun x j => by rw [e2, mI_UI, e1, mI_UI]
    have ec : cp M2 p = cp M p := by unfold cp; rw [n2, r2]
    have il : mI M2 p 1 = mI M p 1 + 1 := by rw [i2, if_pos ⟨rfl, rfl⟩]
    refine ⟨o2, ⟨by rw [k2]; exact h1, by rw [k2, r2]; exact h2, ⟨by omega, by rw [r2]; omega⟩, ⟨by omega, by rw [ec]; omega⟩, by rw [ec]; exact ⟨h6, h7, h8⟩⟩, ⟨⟨by omega, fun q w => by omega⟩, fun x _ => ⟨by rw [k2], by rw [n2]⟩, fun x _ _ => by rw [r2], fun x hx w1 w2 _ => ⟨?_, by rw [l2]⟩, fun q _ => Or.inl (by rw [r2])⟩, il, fun j hj => ?_, ?_, by rw [c2, z2, ec]; omega, Or.inl ec⟩
    · funext j
      rw [i2, if_neg (fun w => w1 w.1), if_neg (fun w => w2 p rfl w.1)]
    · unfold nt
      unfold ln at hj
      rw [r2, i2, if_neg (fun w => hne w.1.symm), if_neg (fun w => by have := w.2; omega)]
    · unfold nt ln
      rw [r2, i2, if_neg (fun w => hne w.1.symm), if_pos ⟨rfl, rfl⟩]
theorem s_MN_add {v : Int} (hv : i32 v) (hO : mOk M) (hN : Nu M p) (hsz : ln M p ≤ 32768) : Cv G y_MN_add d [vr p, vi v] M (adQ M p v) := s_MN_addB (B := 32768) hv hO hN hsz (by decide)
theorem s_MN_at {j : Nat} (hO : mOk M) (hN : Nu M p) (hj : (j : Int) < ln M p) : Ci G y_MN_at d [vr p, vi j] M (fun x M' => M' = M ∧ x = nt M p j) := by
  obtain ⟨h1, h2, -, ⟨h5, h5'⟩, ⟨h6, h7, h8⟩⟩ := id hN
  unfold ln at hj
  have ecp : mN M (mR M p 0) = cp M p := rfl
  refine k_MN_at hO ⟨by omega, by omega⟩ ⟨h1, h2, by omega, rfl, ?_⟩
  rw [Int.toNat_natCast]
  rfl
theorem s_MN_last (hO : mOk M) (hN : Nu M p) (hj : 0 < ln M p) : Ci G y_MN_last d [vr p] M (fun x M' => M' = M ∧ x = nt M p (ln M p - 1).toNat) := by
  obtain ⟨h1, h2, -, ⟨h5, h5'⟩, ⟨h6, h7, h8⟩⟩ := id hN
  unfold ln at hj ⊢
  have ecp : mN M (mR M p 0) = cp M p := rfl
  exact k_MN_last hO ⟨h1, h2, by omega, rfl, rfl⟩
/-- what taking leaves behind -/
def tkQ (M : mM) (p : Nat) (x : Int) (M' : mM) : Prop := mOk M' ∧ Nu M' p ∧ FI (fun y => y = p) M M' ∧ ln M' p = ln M p - 1 ∧ (∀ j, nt M' p j = nt M p j) ∧ x = nt M p (ln M p - 1).toNat
theorem nu_set {M' : mM} {v : Int} (hN : Nu M p) (h0 : 0 ≤ v) (h1 : v ≤ mI M p 1) (e : M' = mUI M p 1 v) : Nu M' p ∧ FI (fun y => y = p) M M' ∧ ln M' p = v ∧ (∀ j, nt M' p j = nt M p j) ∧ cp M' p = cp M p := by
  obtain ⟨g1, g2, g3, ⟨h5, h5'⟩, h6⟩ := id hN
  have f : FI (fun y => y = p) M M' := by rw [e]; exact FI.ui rfl
  have hne : mR M p 0 ≠ p := fun w => by rw [w, g1] at g2; omega
  have er : mR M' p 0 = mR M p 0 := by rw [e]; rfl
  have ec : cp M' p = cp M p := by unfold cp; rw [er, e]; rfl
  have il : mI M' p 1 = v := by rw [e, mI_UI, if_pos ⟨rfl, rfl⟩]
  refine ⟨⟨by rw [f.1]; exact g1, by rw [er, f.1]; exact g2, by rw [er, f.2.2.2.2.1]; exact g3, by rw [il, ec]; omega, by rw [ec]; exact h6⟩, f, il, fun j => ?_, ec⟩
  unfold nt
  rw [er, f.2.2.2.2.2.2 _ hne]
theorem s_MN_take (hO : mOk M) (hN : Nu M p) (hj : 0 < ln M p) : Ci G y_MN_take d [vr p] M (tkQ M p) := by
  obtain ⟨h1, h2, -, ⟨h5, h5'⟩, ⟨h6, h7, h8⟩⟩ := id hN
  unfold ln at hj
  have ecp : mN M (mR M p 0) = cp M p := rfl
  refine k_MN_take hO ⟨h1, ⟨by omega, by omega⟩, fun M1 e1 => ?_⟩
  obtain ⟨a1, a2, a3, a4, a5⟩ := nu_set hN (v := mI M p 1 - 1) (by omega) (by omega) e1
  have o1 : mOk M1 := by rw [e1]; exact mOk_UI hO ⟨by omega, by omega⟩
  have hl : mI M1 p 1 = mI M p 1 - 1 := a3
  have ecp1 : mN M1 (mR M1 p 0) = cp M1 p := rfl
  rw [hl]
  exact ⟨a1.2.1, by omega, o1, a1, a2, a3, a4, (a4 _)⟩
end NU
end
end
section
section
/-! The reference: its places; feed and end. -/
/-- where its lists lie -/
def nuO : List Nat := [1, 3, 5, 7, 9, 11, 14, 16, 18, 20, 22, 24, 43, 45, 47, 50, 52, 54, 56, 58, 60, 79, 81, 83, 85, 87, 89, 91, 93, 95, 99, 109, 111, 113, 115]
def nums (a : Nat) : List Nat := nuO.map (fun o => a + o)
/-- a game's places -/
def Gp (M : mM) (g : Nat) : Prop := mK M g = 16 ∧ (mR M g 0 = g + 1 ∧ mR M g 1 = g + 3 ∧ mR M g 2 = g + 5 ∧ mR M g 3 = g + 7 ∧ mR M g 4 = g + 9 ∧ mR M g 5 = g + 11 ∧ mR M g 7 = g + 13 ∧ mR M g 8 = g + 14 ∧ mR M g 9 = g + 15 ∧ mR M g 10 = g + 16 ∧ mR M g 11 = g + 17)
  ∧ (mR M g 13 = g + 18 ∧ mR M g 14 = g + 19 ∧ mR M g 15 = g + 20 ∧ mR M g 16 = g + 21 ∧ mR M g 19 = g + 22 ∧ mR M g 20 = g + 23 ∧ mR M g 21 = g + 24 ∧ mR M g 22 = g + 25 ∧ mR M g 23 = g + 26 ∧ mR M g 24 = g + 27 ∧ mR M g 25 = g + 28 ∧ mR M g 26 = g + 29 ∧ mR M g 27 = g + 30 ∧ mR M g 28 = g + 32 ∧ mR M g 29 = g + 34)
  ∧ ((mK M (g + 13) = 31 ∧ mN M (g + 13) = 60) ∧ (mK M (g + 14) = 31 ∧ mN M (g + 14) = 60) ∧ (mK M (g + 15) = 30 ∧ mN M (g + 15) = 60) ∧ (mK M (g + 16) = 33 ∧ mN M (g + 16) = 60) ∧ (mK M (g + 17) = 33 ∧ mN M (g + 17) = 60))
  ∧ ((mK M (g + 18) = 31 ∧ mN M (g + 18) = 12) ∧ (mK M (g + 19) = 30 ∧ mN M (g + 19) = 12) ∧ (mK M (g + 20) = 30 ∧ mN M (g + 20) = 12) ∧ (mK M (g + 21) = 30 ∧ mN M (g + 21) = 12))
  ∧ ((mK M (g + 22) = 31 ∧ mN M (g + 22) = 60) ∧ (mK M (g + 23) = 30 ∧ mN M (g + 23) = 60) ∧ (mK M (g + 24) = 30 ∧ mN M (g + 24) = 60) ∧ (mK M (g + 25) = 30 ∧ mN M (g + 25) = 60) ∧ (mK M (g + 26) = 30 ∧ mN M (g + 26) = 480) ∧ (mK M (g + 27) = 30 ∧ mN M (g + 27) = 480) ∧ (mK M (g + 28) = 30 ∧ mN M (g + 28) = 480) ∧ (mK M (g + 29) = 30 ∧ mN M (g + 29) = 480))
/-- the reference's places -/
def Pl (M : mM) (a : Nat) : Prop := mK M a = 14 ∧ ((mR M a 1 = a + 1 ∧ mR M a 2 = a + 3) ∨ (mR M a 1 = a + 3 ∧ mR M a 2 = a + 1)) ∧ (mR M a 3 = a + 5 ∧ mR M a 4 = a + 7 ∧ mR M a 5 = a + 9 ∧ mR M a 6 = a + 11) ∧ ((mR M a 9 = a + 13 ∧ mR M a 10 = a + 49) ∨ (mR M a 9 = a + 49 ∧ mR M a 10 = a + 13))
  ∧ (mR M a 13 = a + 85 ∧ mR M a 14 = a + 87 ∧ mR M a 15 = a + 89 ∧ mR M a 18 = a + 91 ∧ mR M a 19 = a + 93 ∧ mR M a 20 = a + 95 ∧ mR M a 21 = a + 97 ∧ mR M a 22 = a + 98 ∧ mR M a 24 = a + 99 ∧ mR M a 25 = a + 101 ∧ mR M a 26 = a + 102 ∧ mR M a 27 = a + 103 ∧ mR M a 28 = a + 104)
  ∧ (mR M a 31 = a + 105 ∧ mR M a 32 = a + 106 ∧ mR M a 33 = a + 107 ∧ mR M a 34 = a + 108 ∧ mR M a 35 = a + 109 ∧ mR M a 36 = a + 111 ∧ mR M a 37 = a + 113 ∧ mR M a 38 = a + 115 ∧ mR M a 39 = a + 117)
  ∧ (mR M a 41 = a + 21185 ∧ mR M a 42 = a + 21186 ∧ mR M a 43 = a + 21187 ∧ mR M a 44 = a + 21188 ∧ mR M a 45 = a + 21189 ∧ mR M a 46 = a + 21190 ∧ mR M a 47 = a + 21191)
  ∧ ((mK M (a + 97) = 33 ∧ mN M (a + 97) = 16400) ∧ (mK M (a + 98) = 33 ∧ mN M (a + 98) = 16400) ∧ (mK M (a + 101) = 30 ∧ mN M (a + 101) = 12) ∧ (mK M (a + 102) = 31 ∧ mN M (a + 102) = 60) ∧ (mK M (a + 103) = 33 ∧ mN M (a + 103) = 60) ∧ (mK M (a + 104) = 33 ∧ mN M (a + 104) = 60))
  ∧ ((mK M (a + 105) = 30 ∧ mN M (a + 105) = 6144) ∧ (mK M (a + 106) = 30 ∧ mN M (a + 106) = 512) ∧ (mK M (a + 107) = 30 ∧ mN M (a + 107) = 512) ∧ (mK M (a + 108) = 30 ∧ mN M (a + 108) = 512))
  ∧ ((mK M (a + 21185) = 30 ∧ mN M (a + 21185) = 4096) ∧ (mK M (a + 21186) = 33 ∧ mN M (a + 21186) = 4096) ∧ (mK M (a + 21187) = 33 ∧ mN M (a + 21187) = 4096) ∧ (mK M (a + 21188) = 30 ∧ mN M (a + 21188) = 12) ∧ (mK M (a + 21189) = 33 ∧ mN M (a + 21189) = 8) ∧ (mK M (a + 21190) = 33 ∧ mN M (a + 21190) = 8) ∧ (mK M (a + 21191) = 30 ∧ mN M (a + 21191) = 900))
  ∧ Gp M (a + 13) ∧ Gp M (a + 49)
/-- how much a list may hold -/
def Bd (a p : Nat) : Nat := if p = a + 91 ∨ p = a + 93 ∨ p = a + 95 ∨ p = a + 99 then 131072 else 65536
/-- the reference's shape -/
def Wd (M : mM) (a : Nat) : Prop := Pl M a ∧ (∀ p, p ∈ nums a → Nu M p ∧ (mR M p 0 = p + 1 ∨ a + 21192 ≤ mR M p 0) ∧ cp M p ≤ Bd a p) ∧ Apt (nums a) M ∧ a + 21192 ≤ mZ M
theorem nums_off {a p : Nat} : p ∈ nums a ↔ ∃ o, o ∈ nuO ∧ p = a + o := by
  unfold nums
  rw [List.mem_map]
  exact ⟨fun ⟨o, h1, h2⟩ => ⟨o, h1, h2.symm⟩, fun ⟨o, h1, h2⟩ => ⟨o, h1, h2.symm⟩⟩
theorem nums_lt : ∀ o ∈ nuO, 1 ≤ o ∧ o ≤ 115 ∧ o + 1 ∉ nuO := by decide
theorem nums_nodup {a : Nat} : (nums a).Nodup := by
  have h : nuO.Nodup := by decide
  exact List.Pairwise.map _ (fun x y h => by omega) h
theorem nums_in {a p : Nat} (h : p ∈ nums a) : a < p ∧ p ≤ a + 115 ∧ p + 1 ∉ nums a := by
  obtain ⟨o, h1, h2⟩ := nums_off.1 h
  have := nums_lt o h1
  refine ⟨by omega, by omega, fun w => ?_⟩
  obtain ⟨o', h3, h4⟩ := nums_off.1 w
  have e : o' = o + 1 := by omega
  rw [e] at h3
  exact this.2.2 h3
theorem nums_o {a o : Nat} (h : o ∈ nuO) : a + o ∈ nums a := nums_off.2 ⟨o, h, rfl⟩
end
section
/-! The reference: its shape stays. -/
section WD
variable {M M' : mM} {a p : Nat} {S : Nat → Prop}
theorem pl_same (hz : a + 21192 ≤ mZ M) (hk : ∀ x, x < mZ M → mK M' x = mK M x) (hn : ∀ x, x < mZ M → mN M' x = mN M x) (hr : mR M' a = mR M a) (h1 : mR M' (a + 13) = mR M (a + 13)) (h2 : mR M' (a + 49) = mR M (a + 49)) : Pl M a → Pl M' a := by
  unfold Pl Gp
  simp (disch := omega) only [hk, hn, hr, h1, h2]
  exact id
theorem Wd.nu (h : Wd M a) (hp : p ∈ nums a) : Nu M p := (h.2.1 p hp).1
theorem Wd.bd (h : Wd M a) (hp : p ∈ nums a) : cp M p ≤ Bd a p := (h.2.1 p hp).2.2
theorem bd_lo : 65536 ≤ Bd a p := by unfold Bd; split <;> omega
theorem bd_hi (h : p = a + 91 ∨ p = a + 93 ∨ p = a + 95 ∨ p = a + 99) : Bd a p = 131072 := if_pos h
theorem Wd.arr (h : Wd M a) (hp : p ∈ nums a) : mR M p 0 ∉ nums a ∧ (mR M p 0 = p + 1 ∨ a + 21192 ≤ mR M p 0) := by
  refine ⟨fun w => ?_, (h.2.1 p hp).2.1⟩
  rcases (h.2.1 p hp).2.1 with q | q
  · exact (nums_in hp).2.2 (by rw [← q]; exact w)
  · have := nums_in w
    omega
/-- the same list, with the same numbers -/
def sameN (M M' : mM) (q : Nat) : Prop := ln M' q = ln M q ∧ (∀ j, nt M' q j = nt M q j) ∧ cp M' q = cp M q ∧ mR M' q = mR M q
theorem sameN.refl {q : Nat} : sameN M M q := ⟨rfl, fun _ => rfl, rfl, rfl⟩
theorem sameN.trans {M'' : mM} {q : Nat} (h : sameN M M' q) (k : sameN M' M'' q) : sameN M M'' q :=
  ⟨k.1.trans h.1, fun j => (k.2.1 j).trans (h.2.1 j), k.2.2.1.trans h.2.2.1, k.2.2.2.trans h.2.2.2⟩
theorem Wd.one (h : Wd M a) (hp : p ∈ nums a) (f : FN (fun x => x = p) S M M') (hN : Nu M' p) (hB : cp M' p ≤ Bd a p) (hS : ∀ q, q ∈ nums a → q ≠ p → ¬ S q ∧ ¬ S (mR M q 0)) : Wd M' a ∧ ∀ q, q ∈ nums a → q ≠ p → sameN M M' q := by
  obtain ⟨h1, h2, h3, h4⟩ := id h
  have hother : ∀ q, q ∈ nums a → q ≠ p → Nu M' q ∧ sameN M M' q := fun q hq hne => by
    have aq := h.arr hq
    have ap := h.arr hp
    have a := (h.nu hq).fn f hne (fun r w => by rw [w]; exact h3 q p hq hp hne) (fun w => aq.1 (by rw [w]; exact hp)) (fun r w e => by rw [w] at e; exact ap.1 (by rw [← e]; exact hq)) (hS q hq hne).1 (hS q hq hne).2
    exact ⟨a.1, a.2.1, a.2.2.1, a.2.2.2.1, a.2.2.2.2⟩
  obtain ⟨⟨f1, f0⟩, f2, f3, f4, f5⟩ := f
  have hpi := nums_in hp
  have o13 : a + 13 ≠ p := fun w => by
    obtain ⟨o, w1, w2⟩ := nums_off.1 hp
    have e : o = 13 := by omega
    rw [e] at w1
    exact absurd w1 (by decide)
  have o49 : a + 49 ≠ p := fun w => by
    obtain ⟨o, w1, w2⟩ := nums_off.1 hp
    have e : o = 49 := by omega
    rw [e] at w1
    exact absurd w1 (by decide)
  refine ⟨⟨pl_same h4 (fun x hx => (f2 x hx).1) (fun x hx => (f2 x hx).2) (f3 a (by omega) (by omega)) (f3 _ (by omega) o13) (f3 _ (by omega) o49) h1, fun q hq => ?_, fun q r hq hr hne => ?_, by omega⟩, fun q hq hne => (hother q hq hne).2⟩
  · by_cases z : q = p
    · subst z
      refine ⟨hN, ?_, hB⟩
      rcases f5 q rfl with w | w
      · rw [w]; exact (h2 q hq).2.1
      · exact Or.inr (by omega)
    · refine ⟨(hother q hq z).1, ?_, by rw [(hother q hq z).2.2.2.1]; exact (h2 q hq).2.2⟩
      rw [(hother q hq z).2.2.2.2]
      exact (h2 q hq).2.1
  · have low : ∀ t, t ∈ nums a → t ≠ p → mR M' t 0 = mR M t 0 ∧ mR M t 0 < mZ M := fun t ht z => ⟨by rw [(hother t ht z).2.2.2.2], (h.nu ht).2.2.1.2⟩
    by_cases z : q = p
    · have zr : r ≠ p := fun w => hne (z.trans w.symm)
      have lr := low r hr zr
      rcases f5 q z with w | w
      · rw [w, lr.1]; exact h3 q r hq hr hne
      · omega
    · have lq := low q hq z
      by_cases zr : r = p
      · rcases f5 r zr with w | w
        · rw [w, lq.1]; exact h3 q r hq hr hne
        · omega
      · have lr := low r hr zr
        rw [lq.1, lr.1]
        exact h3 q r hq hr hne
/-- only numbers have changed, of no list -/
theorem Wd.fi (h : Wd M a) (f : FI S M M') (hS : ∀ q, q ∈ nums a → ¬ S q ∧ ¬ S (mR M q 0)) : Wd M' a ∧ ∀ q, q ∈ nums a → sameN M M' q := by
  have k0 := (h.nu (p := a + 1) (nums_o (by decide))).fn f.fn (fun q => q) (fun q w => w.elim) (fun q => q) (fun q w => w.elim) (hS _ (nums_o (by decide))).1 (hS _ (nums_o (by decide))).2
  have hone := h.one (p := a + 1) (S := S) (nums_o (by decide)) (f.fn.mono (P' := fun x => x = a + 1) (fun p q => q.elim) (fun x q => q) (fun p q => by have := h.2.2.2; omega)) (by
    have k := (h.nu (p := a + 1) (nums_o (by decide))).fn f.fn (fun q => q) (fun q w => w.elim) (fun q => q) (fun q w => w.elim) (hS _ (nums_o (by decide))).1 (hS _ (nums_o (by decide))).2
    exact k.1) (by rw [k0.2.2.2.1]; exact h.bd (nums_o (by decide))) (fun q hq _ => hS q hq)
  refine ⟨hone.1, fun q hq => ?_⟩
  have k := (h.nu hq).fn f.fn (fun q => q) (fun q w => w.elim) (fun q => q) (fun q w => w.elim) (hS q hq).1 (hS q hq).2
  exact ⟨k.2.1, k.2.2.1, k.2.2.2.1, k.2.2.2.2⟩
/-- one list's length has been set -/
theorem Wd.set (h : Wd M a) (hp : p ∈ nums a) {v : Int} (h0 : 0 ≤ v) (h1 : v ≤ ln M p) (e : M' = mUI M p 1 v) : Wd M' a ∧ FI (fun y => y = p) M M' ∧ ln M' p = v ∧ (∀ j, nt M' p j = nt M p j) ∧ cp M' p = cp M p ∧ ∀ q, q ∈ nums a → q ≠ p → sameN M M' q := by
  obtain ⟨a1, a2, a3, a4, a5⟩ := nu_set (h.nu hp) h0 h1 e
  have k := h.one (S := fun y => y = p) hp (a2.fn.mono (P' := fun x => x = p) (fun p q => q.elim) (fun x q => q) (fun q w => by rw [w]; exact (h.nu hp).2.2.1.1)) a1 (by rw [a5]; exact h.bd hp) (fun q hq hne => ⟨hne, fun w => (h.arr hq).1 (by rw [w]; exact hp)⟩)
  exact ⟨k.1, a2, a3, a4, a5, k.2⟩
theorem Wd.take (h : Wd M a) (hp : p ∈ nums a) {x : Int} (t : tkQ M p x M') : Wd M' a ∧ ∀ q, q ∈ nums a → q ≠ p → sameN M M' q := by
  obtain ⟨t1, t2, t3, -⟩ := t
  exact h.one (S := fun y => y = p) hp (t3.fn.mono (P' := fun x => x = p) (fun p q => q.elim) (fun x q => q) (fun q w => by rw [w]; exact (h.nu hp).2.2.1.1)) t2 (by rw [show cp M' p = cp M p by unfold cp; rw [t3.2.2.1, t3.2.1]]; exact h.bd hp) (fun q hq hne => ⟨hne, fun w => (h.arr hq).1 (by rw [w]; exact hp)⟩)
theorem Wd.add (h : Wd M a) (hp : p ∈ nums a) {v : Int} {B : Nat} (t : adB B M p v M') (hB : 2 * B ≤ Bd a p) : Wd M' a ∧ RmL (nums a) M M' ∧ ∀ q, q ∈ nums a → q ≠ p → sameN M M' q := by
  obtain ⟨t1, t2, t3, t4, t5, t6, t7, t8⟩ := t
  have k := h.one (S := fun _ => False) hp t3 t2 (by rcases t8 with u | u; · rw [u]; exact h.bd hp
                                                     · omega) (fun q hq hne => ⟨fun w => w, fun w => w⟩)
  refine ⟨k.1, ?_, k.2⟩
  have s1 := psum_one (f := cp M) (g := cp M') (nums a) nums_nodup hp (fun q hq hne => (k.2 q hq hne).2.2.1)
  have s2 := psum_one (f := fun q => cp M q / 16) (g := fun q => cp M' q / 16) (nums a) nums_nodup hp (fun q hq hne => by show cp M' q / 16 = cp M q / 16; rw [(k.2 q hq hne).2.2.1])
  have s2' : psum (fun q => cp M' q / 16) (nums a) + cp M p / 16 = psum (fun q => cp M q / 16) (nums a) + cp M' p / 16 := s2
  exact ⟨by omega, by omega⟩
end WD
end
section
/-! The reference: feed and end. -/
/-- a step of the reference: lists P have changed, and numbers of cells S -/
def Mv (P S : Nat → Prop) (M : mM) (a : Nat) (M' : mM) : Prop := mOk M' ∧ Wd M' a ∧ RmL (nums a) M M' ∧ FN P S M M' ∧ ∀ q, q ∈ nums a → ¬ P q → sameN M M' q
section MV
variable {P S P' S' : Nat → Prop} {M M1 M2 : mM} {a p : Nat}
theorem Mv.trans (h : Mv P S M a M1) (k : Mv P S M1 a M2) : Mv P S M a M2 :=
  ⟨k.1, k.2.1, h.2.2.1.trans k.2.2.1, h.2.2.2.1.trans k.2.2.2.1, fun q hq hp => (h.2.2.2.2 q hq hp).trans (k.2.2.2.2 q hq hp)⟩
theorem Mv.refl (hO : mOk M) (h : Wd M a) (hP : ∀ q, P q → q < mZ M) : Mv P S M a M :=
  ⟨hO, h, RmL.fi (S := fun _ => False) FI.refl, FN.refl hP, fun q _ _ => sameN.refl⟩
theorem Mv.mono (h : Mv P S M a M1) (hp : ∀ q, P q → P' q) (hs : ∀ x, S x → S' x) (h0 : ∀ q, P' q → q < mZ M) : Mv P' S' M a M1 :=
  ⟨h.1, h.2.1, h.2.2.1, h.2.2.2.1.mono hp hs h0, fun q hq hq' => h.2.2.2.2 q hq (fun w => hq' (hp q w))⟩
theorem Wd.lt (h : Wd M a) (hp : p ∈ nums a) : p < mZ M := (h.nu hp).2.2.1.1
theorem FN.drop (h : FN P S M M1) (hs : ∀ x, S x → P x) : FN P (fun _ => False) M M1 :=
  ⟨h.1, h.2.1, h.2.2.1, fun x hx hp hq _ => h.2.2.2.1 x hx hp hq (fun w => hp (hs x w)), h.2.2.2.2⟩
theorem mv_add {v : Int} (h : Wd M a) (hp : p ∈ nums a) (t : adQ M p v M1) : Mv (fun x => x = p) (fun _ => False) M a M1 := by
  obtain ⟨k1, k2, k3⟩ := h.add (B := 32768) hp t bd_lo
  exact ⟨t.1, k1, k2, t.2.2.1, fun q hq hne => k3 q hq hne⟩
theorem mv_addB {v : Int} (h : Wd M a) (hp : p ∈ nums a) (hb : p = a + 91 ∨ p = a + 93 ∨ p = a + 95 ∨ p = a + 99) (t : adB 65536 M p v M1) : Mv (fun x => x = p) (fun _ => False) M a M1 := by
  obtain ⟨k1, k2, k3⟩ := h.add hp t (by rw [bd_hi hb]; decide)
  exact ⟨t.1, k1, k2, t.2.2.1, fun q hq hne => k3 q hq hne⟩
theorem mv_set {v : Int} (hO : mOk M) (h : Wd M a) (hp : p ∈ nums a) (h0 : 0 ≤ v) (h1 : v ≤ ln M p) (e : M1 = mUI M p 1 v) : Mv (fun x => x = p) (fun _ => False) M a M1 ∧ ln M1 p = v ∧ (∀ j, nt M1 p j = nt M p j) ∧ cp M1 p = cp M p := by
  obtain ⟨k1, k2, k3, k4, k5, k6⟩ := h.set hp h0 h1 e
  have hN := (h.nu hp).2.2.2
  have o1 : mOk M1 := by rw [e]; exact mOk_UI hO ⟨by omega, by unfold ln at h1; omega⟩
  refine ⟨⟨o1, k1, RmL.fi k2, (k2.fn.mono (P' := fun x => x = p) (fun p q => q.elim) (fun x q => q) (fun q w => by rw [w]; exact h.lt hp)).drop (fun x w => w), fun q hq hne => k6 q hq hne⟩, k3, k4, k5⟩
theorem mv_take {x : Int} (h : Wd M a) (hp : p ∈ nums a) (t : tkQ M p x M1) : Mv (fun x => x = p) (fun _ => False) M a M1 := by
  obtain ⟨k1, k2⟩ := h.take hp t
  exact ⟨t.1, k1, RmL.fi t.2.2.1, (t.2.2.1.fn.mono (P' := fun x => x = p) (fun p q => q.elim) (fun x q => q) (fun q w => by rw [w]; exact h.lt hp)).drop (fun x w => w), fun q hq hne => k2 q hq hne⟩
/-- a number of a cell that belongs to no list -/
theorem mv_fi (o1 : mOk M1) (h : Wd M a) (f : FI S M M1) (hS : ∀ x, S x → a ≤ x ∧ x ≤ a + 21191 ∧ x ∉ nums a ∧ (∀ q, q ∈ nums a → x ≠ q + 1)) : Mv (fun _ => False) S M a M1 := by
  obtain ⟨k1, k2⟩ := h.fi f (fun q hq => ⟨fun w => (hS q w).2.2.1 hq, fun w => by
    rcases (h.arr hq).2 with z | z
    · exact (hS _ w).2.2.2 q hq z
    · have := (hS _ w).2.1; omega⟩)
  exact ⟨o1, k1, RmL.fi f, f.fn, fun q hq _ => k2 q hq⟩
theorem a_free : ∀ q, q ∈ nums a → a ≠ q + 1 := fun q hq => by have := nums_in hq; omega
theorem a_free2 : a ∉ nums a := fun w => by have := nums_in w; omega
/-- a field of the reference itself -/
theorem mv_fld {j : Nat} {v : Int} (hv : i32 v) (hO : mOk M) (h : Wd M a) (e : M1 = mUI M a j v) : Mv (fun _ => False) (fun x => x = a) M a M1 ∧ (∀ i, mI M1 a i = if i = j then v else mI M a i) := by
  have f : FI (fun x => x = a) M M1 := by rw [e]; exact FI.ui rfl
  have o1 : mOk M1 := by rw [e]; exact mOk_UI hO hv
  refine ⟨mv_fi o1 h f (fun x w => by rw [w]; exact ⟨by omega, by omega, a_free2, a_free⟩), fun i => ?_⟩
  rw [e, mI_UI]
  by_cases z : i = j
  · rw [if_pos ⟨rfl, z⟩, if_pos z]
  · rw [if_neg (fun w => z w.2), if_neg z]
theorem Mv.fld (h : Mv P S M a M1) (hw : Wd M a) (hP : ∀ q, P q → q ∈ nums a) (hS : ¬ S a) : mI M1 a = mI M a ∧ mR M1 a = mR M a := by
  have hz := hw.2.2.2
  have f := h.2.2.2.1
  have hp : ¬ P a := fun w => a_free2 (hP a w)
  refine ⟨(f.2.2.2.1 a (by omega) hp (fun q hq w => ?_) hS).1, f.2.2.1 a (by omega) hp⟩
  rcases (hw.arr (hP q hq)).2 with z | z
  · have := nums_in (hP q hq); omega
  · omega
theorem Mv.rfl_a (h : Mv P S M a M1) (hw : Wd M a) (hP : ∀ q, P q → q ∈ nums a) : mR M1 a = mR M a :=
  h.2.2.2.1.2.2.1 a (by have := hw.2.2.2; omega) (fun w => a_free2 (hP a w))
end MV
section FE
variable {G : mG} {d a : Nat} {M : mM}
theorem Wd.tape (h : Wd M a) : mR M a 1 ∈ nums a ∧ mR M a 2 ∈ nums a ∧ mR M a 1 ≠ mR M a 2 := by
  obtain ⟨⟨-, h1, -⟩, -⟩ := h
  rcases h1 with ⟨e1, e2⟩ | ⟨e1, e2⟩ <;> rw [e1, e2]
  · exact ⟨nums_o (by decide), nums_o (by decide), by omega⟩
  · exact ⟨nums_o (by decide), nums_o (by decide), by omega⟩
/-- v's four bytes -/
def byt (v : Int) (j : Nat) : Int := shrI v (24 - 8 * (j : Int)) % 256
theorem s_MM_add4 {v : Int} (hv : i32 v) (hO : mOk M) (h : Wd M a) (hs : ln M (mR M a 1) ≤ 16380) : Cv G y_MM_add4 (d + 1) [vr a, vi v] M (fun M' => Mv (fun x => x = mR M a 1) (fun _ => False) M a M' ∧ ln M' (mR M a 1) = ln M (mR M a 1) + 4 ∧ (∀ j : Nat, (j : Int) < ln M (mR M a 1) → nt M' (mR M a 1) j = nt M (mR M a 1) j) ∧ ∀ j, j < 4 → nt M' (mR M a 1) ((ln M (mR M a 1)).toNat + j) = byt v j) := by
  have hp := h.tape.1
  generalize hpe : mR M a 1 = p at *
  have hl0 : 0 ≤ ln M p := (h.nu hp).2.2.2.1.1
  refine k_MM_add4 hO hv ?_
  suffices H : ∀ (c i : Nat) (M2 : mM), i + c = 4 → Mv (fun x => x = p) (fun _ => False) M a M2 → ln M2 p = ln M p + i → (∀ j : Nat, (j : Int) < ln M p → nt M2 p j = nt M p j) → (∀ j, j < i → nt M2 p ((ln M p).toNat + j) = byt v j) → h_MM_add4_3 G d a v (24 - 8 * (i : Int)) M2 (fun M' => Mv (fun x => x = p) (fun _ => False) M a M' ∧ ln M' p = ln M p + 4 ∧ (∀ j : Nat, (j : Int) < ln M p → nt M' p j = nt M p j) ∧ ∀ j, j < 4 → nt M' p ((ln M p).toNat + j) = byt v j) from
    H 4 0 M (by omega) (Mv.refl hO h (fun q w => by rw [w]; exact h.lt hp)) (by omega) (fun j hj => rfl) (fun j hj => by omega)
  intro c
  induction c with
  | zero =>
    intro i M2 hi h2 l2 b2 n2
    have ei : i = 4 := by omega
    subst ei
    exact k_MM_add4_3 h2.1 hv ⟨by omega, by omega⟩ ⟨fun _ => ⟨h2, l2, b2, n2⟩, fun w => by omega⟩
  | succ c ih =>
    intro i M2 hi h2 l2 b2 n2
    have w2 := h2.2.1
    have hr2 : mR M2 a = mR M a := h2.rfl_a h (fun q w => by rw [w]; exact hp)
    have hN := w2.nu hp
    refine k_MM_add4_3 h2.1 hv ⟨by omega, by omega⟩ ⟨fun w => by omega, fun _ => ?_⟩
    rw [hr2, hpe]
    have e255 : andI (shrI v (24 - 8 * (i : Int))) 255 = byt v i := by
      unfold byt
      exact i_and 8 (by omega) 255 (by decide) ⟨by omega, by omega⟩
    have hb : 0 ≤ byt v i ∧ byt v i < 256 := by unfold byt; omega
    rw [e255]
    refine ⟨w2.1.1, hN.1, (s_MN_add ⟨by omega, by omega⟩ h2.1 hN (by omega)).mono (fun M3 t => ?_)⟩
    have m3 := mv_add w2 hp t
    obtain ⟨t1, t2, t3, t4, t5, t6, -⟩ := t
    have k3 := h2.trans m3
    have a := ih (i + 1) M3 (by omega) k3 (by omega) (fun j hj => by rw [t5 j (by omega)]; exact b2 j hj) (fun j hj => by
      by_cases z : j = i
      · rw [z, show (ln M p).toNat + i = (ln M2 p).toNat by first | rfl | omega]
        exact t6
      · rw [t5 _ (by omega)]
        exact n2 j (by omega))
    rw [show 24 - 8 * ((i + 1 : Nat) : Int) = 24 - 8 * (i : Int) + (-8) by first | rfl | omega] at a
    exact ⟨t1, a⟩
/-- feed's answer, and the tape after it -/
def fdQ (M : mM) (a : Nat) (v : Nat → Int) (r : Int) (M' : mM) : Prop := Mv (fun x => x = mR M a 1) (fun x => x = a) M a M' ∧ (∀ i, i ≠ 0 → mI M' a i = mI M a i) ∧ mI M' a 0 = 0 ∧ ((ln M (mR M a 1) + 20 ≤ 16384 ∧ r = ln M (mR M a 1) + 20 ∧ ln M' (mR M a 1) = r ∧ (∀ j : Nat, (j : Int) < ln M (mR M a 1) → nt M' (mR M a 1) j = nt M (mR M a 1) j) ∧ ∀ i j, i < 5 → j < 4 → nt M' (mR M a 1) ((ln M (mR M a 1)).toNat + 4 * i + j) = byt (v i) j) ∨ (16384 < ln M (mR M a 1) + 20 ∧ r = -1 ∧ sameN M M' (mR M a 1)))
theorem s_MM_feed {v : Nat → Int} (hv : ∀ i, i32 (v i)) (hO : mOk M) (h : Wd M a) (hs : ln M (mR M a 1) ≤ 16384) : Ci G y_MM_feed (d + 2) [vr a, vi (v 0), vi (v 1), vi (v 2), vi (v 3), vi (v 4)] M (fdQ M a v) := by
  have hp := h.tape.1
  have hl0 : 0 ≤ ln M (mR M a 1) := (h.nu hp).2.2.2.1.1
  have hpl : ∀ q, q = mR M a 1 → q < mZ M := fun q w => by rw [w]; exact h.lt hp
  refine k_MM_feed hO (hv 0) (hv 1) (hv 2) (hv 3) (hv 4) ⟨h.1.1, fun M1 e1 => ?_⟩
  obtain ⟨m1, f1⟩ := mv_fld ⟨by omega, by omega⟩ hO h e1
  have r1 : mR M1 a = mR M a := m1.rfl_a h (fun q w => w.elim)
  have s1 := m1.2.2.2.2 (mR M a 1) hp (fun w => w)
  have l1 : mI M1 (mR M a 1) 1 = ln M (mR M a 1) := s1.1
  have m1' : Mv (fun x => x = mR M a 1) (fun x => x = a) M a M1 := m1.mono (fun q w => w.elim) (fun x w => w) hpl
  have w1 := m1.2.1
  rw [r1, l1]
  have ha0 : mI M1 a 0 = 0 := by rw [f1, if_pos rfl]
  have ha1 : ∀ i, i ≠ 0 → mI M1 a i = mI M a i := fun i hi => by rw [f1, if_neg hi]
  refine ⟨(w1.nu hp).1, ⟨by omega, by omega⟩, fun hle => ?_, fun hgt => ⟨m1', ha1, ha0, Or.inr ⟨by omega, rfl, s1⟩⟩⟩
  -- five times four bytes
  have step : ∀ (i : Nat) (Mi : mM), i < 5 → Mv (fun x => x = mR M a 1) (fun x => x = a) M a Mi → mI Mi a = mI M1 a → ln Mi (mR M a 1) = ln M (mR M a 1) + 4 * i → (∀ j : Nat, (j : Int) < ln M (mR M a 1) → nt Mi (mR M a 1) j = nt M (mR M a 1) j) → (∀ k j, k < i → j < 4 → nt Mi (mR M a 1) ((ln M (mR M a 1)).toNat + 4 * k + j) = byt (v k) j) → Cv G y_MM_add4 (d + 1) [vr a, vi (v i)] Mi (fun Mj => mOk Mj ∧ Mv (fun x => x = mR M a 1) (fun x => x = a) M a Mj ∧ mI Mj a = mI M1 a ∧ ln Mj (mR M a 1) = ln M (mR M a 1) + 4 * ((i : Int) + 1) ∧ (∀ j : Nat, (j : Int) < ln M (mR M a 1) → nt Mj (mR M a 1) j = nt M (mR M a 1) j) ∧ (∀ k j, k < i + 1 → j < 4 → nt Mj (mR M a 1) ((ln M (mR M a 1)).toNat + 4 * k + j) = byt (v k) j)) := by
    intro i Mi hi mi ai li bi ni
    have ri : mR Mi a = mR M a := mi.rfl_a h (fun q w => by rw [w]; exact hp)
    have key := s_MM_add4 (G := G) (d := d) (hv i) mi.1 mi.2.1 (by rw [ri]; omega)
    rw [ri] at key
    refine key.mono (fun Mj hj => ?_)
    obtain ⟨mj, lj, bj, nj⟩ := hj
    refine ⟨mj.1, mi.trans (mj.mono (fun q w => w) (fun x w => w.elim) (fun q w => by rw [w]; exact mi.2.1.lt hp)), ?_, by omega, fun j hj => by rw [bj j (by omega)]; exact bi j hj, fun k j hk hj => ?_⟩
    · rw [← ai]
      exact (mj.fld mi.2.1 (fun q w => by rw [w]; exact hp) (fun w => w)).1
    · by_cases z : k = i
      · subst z
        have := nj j hj
        rw [show (ln Mi (mR M a 1)).toNat + j = (ln M (mR M a 1)).toNat + 4 * k + j by first | rfl | omega] at this
        exact this
      · rw [bj _ (by omega)]
        exact ni k j (by omega) hj
  refine (step 0 M1 (by omega) m1' rfl (by rw [s1.1]; omega) (fun j _ => s1.2.1 j) (fun k j hk => by omega)).mono (fun M2 h2 => ?_)
  obtain ⟨o2, m2, a2, l2, b2, n2⟩ := h2
  refine ⟨o2, m2.2.1.1.1, (step 1 M2 (by omega) m2 a2 (by omega) b2 n2).mono (fun M3 h3 => ?_)⟩
  obtain ⟨o3, m3, a3, l3, b3, n3⟩ := h3
  refine ⟨o3, m3.2.1.1.1, (step 2 M3 (by omega) m3 a3 (by omega) b3 n3).mono (fun M4 h4 => ?_)⟩
  obtain ⟨o4, m4, a4, l4, b4, n4⟩ := h4
  refine ⟨o4, m4.2.1.1.1, (step 3 M4 (by omega) m4 a4 (by omega) b4 n4).mono (fun M5 h5 => ?_)⟩
  obtain ⟨o5, m5, a5, l5, b5, n5⟩ := h5
  refine ⟨o5, m5.2.1.1.1, (step 4 M5 (by omega) m5 a5 (by omega) b5 n5).mono (fun M6 h6 => ?_)⟩
  obtain ⟨o6, m6, a6, l6, b6, n6⟩ := h6
  have r6 : mR M6 a = mR M a := m6.rfl_a h (fun q w => by rw [w]; exact hp)
  rw [r6]
  have l6' : mI M6 (mR M a 1) 1 = ln M (mR M a 1) + 20 := by
    have : mI M6 (mR M a 1) 1 = ln M6 (mR M a 1) := rfl
    omega
  rw [l6']
  refine ⟨o6, m6.2.1.1.1, (m6.2.1.nu hp).1, m6, fun i hi => by rw [a6]; exact ha1 i hi, by rw [a6]; exact ha0, Or.inl ⟨hle, rfl, l6', b6, fun i j hi hj => n6 i j (by omega) hj⟩⟩
/-- end's answer -/
theorem s_MM_end {n : Int} (hn : i32 n) (hO : mOk M) (h : Wd M a) (hs : ln M (mR M a 1) ≤ 16384) : Ci G y_MM_end d [vr a, vi n] M (fun r M' => Mv (fun x => x = mR M a 1) (fun x => x = a) M a M' ∧ (∀ i, i ≠ 0 → mI M' a i = mI M a i) ∧ ((0 ≤ n ∧ n ≤ 20 ∧ 20 ≤ ln M (mR M a 1) ∧ mI M' a 0 = 0 ∧ r = ln M (mR M a 1) - 20 + n ∧ ln M' (mR M a 1) = r ∧ ∀ j, nt M' (mR M a 1) j = nt M (mR M a 1) j) ∨ (¬ (0 ≤ n ∧ n ≤ 20 ∧ 20 ≤ ln M (mR M a 1)) ∧ mI M' a 0 = 1 ∧ r = 0 ∧ sameN M M' (mR M a 1)))) := by
  have hp := h.tape.1
  have hl0 : 0 ≤ ln M (mR M a 1) := (h.nu hp).2.2.2.1.1
  have hpl : ∀ q, q = mR M a 1 → q < mZ M := fun q w => by rw [w]; exact h.lt hp
  have el : mI M (mR M a 1) 1 = ln M (mR M a 1) := rfl
  refine k_MM_end hO hn ?_
  rw [el]
  refine ⟨fun _ _ => ⟨h.1.1, (h.nu hp).1⟩, fun v hv => ⟨h.1.1, fun M1 e1 => ?_⟩⟩
  obtain ⟨m1, f1⟩ := mv_fld (v := v) ⟨by split at hv <;> omega, by split at hv <;> omega⟩ hO h e1
  have r1 : mR M1 a = mR M a := m1.rfl_a h (fun q w => w.elim)
  have s1 := m1.2.2.2.2 (mR M a 1) hp (fun w => w)
  have l1 : mI M1 (mR M a 1) 1 = ln M (mR M a 1) := s1.1
  have m1' : Mv (fun x => x = mR M a 1) (fun x => x = a) M a M1 := m1.mono (fun q w => w.elim) (fun x w => w) hpl
  have w1 := m1.2.1
  have ha0 : mI M1 a 0 = v := by rw [f1, if_pos rfl]
  have ha1 : ∀ i, i ≠ 0 → mI M1 a i = mI M a i := fun i hi => by rw [f1, if_neg hi]
  rw [ha0, r1, l1]
  by_cases q : n < 0 ∨ (20 < n ∨ ¬ (20 ≤ ln M (mR M a 1)))
  · rw [if_pos q] at hv
    exact ⟨fun w => by omega, fun _ => ⟨m1', ha1, Or.inr ⟨by omega, hv, rfl, s1⟩⟩⟩
  · rw [if_neg q] at hv
    refine ⟨fun _ => ⟨(w1.nu hp).1, ⟨by omega, by omega⟩, fun M2 e2 => ?_⟩, fun w => by omega⟩
    obtain ⟨m2, l2, n2, -⟩ := mv_set m1.1 w1 hp (v := ln M (mR M a 1) - 20 + n) (by omega) (by rw [s1.1]; omega) e2
    have r2 : mR M2 a = mR M1 a := m2.rfl_a w1 (fun q w => by rw [w]; exact hp)
    have i2 := (m2.fld w1 (fun q w => by rw [w]; exact hp) (fun w => w)).1
    rw [r2, r1]
    have l2' : mI M2 (mR M a 1) 1 = ln M (mR M a 1) - 20 + n := l2
    rw [l2']
    exact ⟨(m2.2.1.nu hp).1, m1'.trans (m2.mono (fun q w => w) (fun x w => w.elim) (fun q w => by rw [w]; exact w1.lt hp)), fun i hi => by rw [i2]; exact ha1 i hi, Or.inl ⟨by omega, by omega, by omega, by rw [i2, ha0, hv], rfl, l2, fun j => by rw [n2 j]; exact s1.2.1 j⟩⟩
end FE
end
section
/-! The reference: cutting the text into words. -/
/-- the letter at i -/
def lt (M : mM) (a i : Nat) : Int := if (i : Int) < ln M (mR M a 2) then nt M (mR M a 2) i else 0
def isL (c : Int) : Prop := (97 ≤ c ∧ c ≤ 122) ∨ (65 ≤ c ∧ c ≤ 90)
section LX
variable {G : mG} {d a : Nat} {M : mM}
theorem Wd.t0 (h : Wd M a) : 0 ≤ ln M (mR M a 2) := (h.nu h.tape.2.1).2.2.2.1.1
theorem s_MM_letter {i : Nat} (hi : (i : Int) < 2147483648) (hO : mOk M) (h : Wd M a) : Ci G y_MM_letter (d + 1) [vr a, vi i] M (fun x M' => M' = M ∧ x = lt M a i) := by
  have hp := h.tape.2.1
  have el : mI M (mR M a 2) 1 = ln M (mR M a 2) := rfl
  refine k_MM_letter hO ⟨by omega, by omega⟩ ?_
  rw [el]
  unfold lt
  refine ⟨h.1.1, (h.nu hp).1, fun w => ⟨rfl, by rw [if_neg (by omega)]⟩, fun w => (s_MN_at hO (h.nu hp) (by omega)).mono (fun x M1 h1 => ?_)⟩
  obtain ⟨e1, hx⟩ := h1
  subst e1
  refine ⟨?_, hO, rfl, by rw [if_pos (by omega)]; exact hx⟩
  rw [hx]
  exact (hO _ _).1
theorem lt_i32 (hO : mOk M) {i : Nat} : i32 (lt M a i) := by
  unfold lt
  split
  · exact (hO _ _).1
  · exact ⟨by omega, by omega⟩
end LX
end
section
/-! The reference: the words of the text. -/
/-- a word: kind, place, end; T letters in all -/
def wok (M : mM) (a : Nat) (k p e : Int) : Prop := (0 ≤ k ∧ k ≤ 39) ∧ (0 ≤ p ∧ p ≤ e ∧ e ≤ ln M (mR M a 2)) ∧ (1 ≤ k → p < e) ∧ (k = 2 → e ≤ p + 9 ∧ ∀ j : Nat, p ≤ j → (j : Int) < e → 48 ≤ nt M (mR M a 2) j ∧ nt M (mR M a 2) j ≤ 57) ∧ (k = 1 → e ≤ p + 40)
abbrev wP (a : Nat) : Nat → Prop := fun x => x = a + 5 ∨ x = a + 7 ∨ x = a + 9
theorem wP_in {a q : Nat} (h : wP a q) : q ∈ nums a := by
  rcases h with h | h | h <;> rw [h]
  · exact nums_o (by decide)
  · exact nums_o (by decide)
  · exact nums_o (by decide)
section WO
variable {G : mG} {d a : Nat} {M : mM}
/-- c words -/
def wds (M : mM) (a c : Nat) : Prop := ln M (a + 5) = c ∧ ln M (a + 7) = c ∧ ln M (a + 9) = c
theorem s_MM_word0 {k p e : Int} {c : Nat} (hk : i32 k) (hp : i32 p) (he : i32 e) (hO : mOk M) (h : Wd M a) (hc : wds M a c) (hc5 : c ≤ 20000) : Cv G y_MM_word0 (d + 1) [vr a, vi k, vi p, vi e] M (fun M' => Mv (wP a) (fun _ => False) M a M' ∧ wds M' a (c + 1) ∧ (∀ j, j < c → nt M' (a + 5) j = nt M (a + 5) j ∧ nt M' (a + 7) j = nt M (a + 7) j ∧ nt M' (a + 9) j = nt M (a + 9) j) ∧ nt M' (a + 5) c = k ∧ nt M' (a + 7) c = p ∧ nt M' (a + 9) c = e) := by
  obtain ⟨c1, c2, c3⟩ := hc
  have i5 : a + 5 ∈ nums a := nums_o (by decide)
  have i7 : a + 7 ∈ nums a := nums_o (by decide)
  have i9 : a + 9 ∈ nums a := nums_o (by decide)
  have hwl : ∀ (M2 : mM), Wd M2 a → ∀ q, wP a q → q < mZ M2 := fun M2 w q hq => w.lt (wP_in hq)
  refine k_MM_word0 hO hk hp he ?_
  rw [h.1.2.2.1.1]
  refine ⟨h.1.1, (h.nu i5).1, (s_MN_add hk hO (h.nu i5) (by omega)).mono (fun M1 t1 => ?_)⟩
  have m1 := mv_add h i5 t1
  have w1 := m1.2.1
  have s17 := m1.2.2.2.2 (a + 7) i7 (by omega)
  have s19 := m1.2.2.2.2 (a + 9) i9 (by omega)
  obtain ⟨o1, -, -, l1, b1, v1, -⟩ := t1
  rw [w1.1.2.2.1.2.1]
  refine ⟨o1, w1.1.1, (w1.nu i7).1, (s_MN_add hp o1 (w1.nu i7) (by rw [s17.1]; omega)).mono (fun M2 t2 => ?_)⟩
  have m2 := mv_add w1 i7 t2
  have w2 := m2.2.1
  have s25 := m2.2.2.2.2 (a + 5) i5 (by omega)
  have s29 := m2.2.2.2.2 (a + 9) i9 (by omega)
  obtain ⟨o2, -, -, l2, b2, v2, -⟩ := t2
  rw [w2.1.2.2.1.2.2.1]
  refine ⟨o2, w2.1.1, (w2.nu i9).1, (s_MN_add he o2 (w2.nu i9) (by rw [s29.1, s19.1]; omega)).mono (fun M3 t3 => ?_)⟩
  have m3 := mv_add w2 i9 t3
  have s35 := m3.2.2.2.2 (a + 5) i5 (by omega)
  have s37 := m3.2.2.2.2 (a + 7) i7 (by omega)
  obtain ⟨o3, -, -, l3, b3, v3, -⟩ := t3
  have e1 : (ln M (a + 5)).toNat = c := by omega
  have e2 : (ln M1 (a + 7)).toNat = c := by rw [s17.1]; omega
  have e3 : (ln M2 (a + 9)).toNat = c := by rw [s29.1, s19.1]; omega
  rw [e1] at v1
  rw [e2] at v2
  rw [e3] at v3
  refine ⟨o3, ((m1.mono (fun q w => Or.inl w) (fun x w => w) (hwl M h)).trans (m2.mono (fun q w => Or.inr (Or.inl w)) (fun x w => w) (hwl M1 w1))).trans (m3.mono (fun q w => Or.inr (Or.inr w)) (fun x w => w) (hwl M2 w2)), ⟨by rw [s35.1, s25.1]; omega, by rw [s37.1]; have := s17.1; omega, by have := s29.1; have := s19.1; omega⟩, fun j hj => ⟨?_, ?_, ?_⟩, ?_, ?_, v3⟩
  · rw [s35.2.1, s25.2.1, b1 j (by omega)]
  · rw [s37.2.1, b2 j (by rw [s17.1]; omega), s17.2.1]
  · rw [b3 j (by rw [s29.1, s19.1]; omega), s29.2.1, s19.2.1]
  · rw [s35.2.1, s25.2.1, v1]
  · rw [s37.2.1, v2]
/-- the text stays -/
theorem Mv.text {M1 : mM} (h : Mv (wP a) (fun _ => False) M a M1) (hw : Wd M a) : mR M1 a = mR M a ∧ sameN M M1 (mR M a 2) := by
  refine ⟨h.rfl_a hw (fun q w => wP_in w), h.2.2.2.2 _ hw.tape.2.1 (fun w => ?_)⟩
  rcases hw.1.2.1 with ⟨e1, e2⟩ | ⟨e1, e2⟩ <;> rw [e2] at w <;> omega
theorem wok.same {M1 : mM} {k p e : Int} (h : wok M a k p e) (hr : mR M1 a = mR M a) (hs : sameN M M1 (mR M a 2)) : wok M1 a k p e := by
  unfold wok at h ⊢
  rw [hr, hs.1]
  obtain ⟨h1, h2, h3, h4, h5⟩ := h
  exact ⟨h1, h2, h3, fun w => ⟨(h4 w).1, fun j a1 a2 => by rw [hs.2.1]; exact (h4 w).2 j a1 a2⟩, h5⟩
/-- the words so far are sound, and none is wrong or the last -/
def wgd (M : mM) (a c : Nat) : Prop := ∀ j, j < c → wok M a (nt M (a + 5) j) (nt M (a + 7) j) (nt M (a + 9) j) ∧ 1 ≤ nt M (a + 5) j ∧ nt M (a + 5) j ≠ 39
/-- after cutting: the last word is the end, or wrong -/
def cutQ (M : mM) (a : Nat) (M' : mM) : Prop := Mv (wP a) (fun _ => False) M a M' ∧ ∃ c, wds M' a (c + 1) ∧ (c : Int) ≤ ln M (mR M a 2) ∧ wgd M' a c ∧ wok M' a (nt M' (a + 5) c) (nt M' (a + 7) c) (nt M' (a + 9) c) ∧ (nt M' (a + 5) c = 0 ∨ nt M' (a + 5) c = 39)
def cuI (M : mM) (a c : Nat) (M2 : mM) : Prop := Mv (wP a) (fun _ => False) M a M2 ∧ wds M2 a c ∧ wgd M2 a c
/-- kinds of words told by their letters -/
def WKs (G : mG) : Prop := ∀ (d a f e : Nat) (M : mM), mOk M → Wd M a → f < e → (e : Int) ≤ ln M (mR M a 2) → e ≤ f + 40 → ln M (mR M a 2) ≤ 16384 → Ci G y_MM_wordKind (d + 5) [vr a, vi f, vi e] M (fun x M' => M' = M ∧ 1 ≤ x ∧ x ≤ 15 ∧ x ≠ 2)
end WO
end
section
/-! The reference: the grammar of the text. -/
def ex50 (nx : Int) : Option (List Int × Nat) := if nx = 0 then some ([], 1) else if nx = 3 ∨ nx = 6 then some ([51, 34, 50], 1) else if nx = 4 then some ([1, 33, 53, 54, 34, 50], 1) else if nx = 7 ∨ nx = 8 then some ([61, 17, 56, 57, 34, 50], 1) else if nx = 11 then some ([61, 34, 50], 1) else none
def ex51 (nx : Int) : Option (List Int × Nat) := some ([1, 23, 61], 0)
def ex53 (nx : Int) : Option (List Int × Nat) := if nx = 5 then some ([], 1) else some ([61, 16, 61], 0)
def ex54 (nx : Int) : Option (List Int × Nat) := if nx = 9 then some ([61], 1) else some ([], 0)
def ex56 (nx : Int) : Option (List Int × Nat) := some ([63, 33, 58], 0)
def ex57 (nx : Int) : Option (List Int × Nat) := if nx = 24 then some ([56, 57], 1) else some ([], 0)
def ex58 (nx : Int) : Option (List Int × Nat) := if nx = 10 then some ([], 1) else some ([59, 60], 0)
def ex59 (nx : Int) : Option (List Int × Nat) := if nx = 36 then some ([1, 38, 23, 61, 37, 75], 1) else none
def ex60 (nx : Int) : Option (List Int × Nat) := if nx = 29 then some ([59, 60], 1) else some ([], 0)
def ex61 (nx : Int) : Option (List Int × Nat) := some ([63, 62], 0)
def ex62 (nx : Int) : Option (List Int × Nat) := if nx = 32 then some ([61, 33, 61, 75], 1) else some ([], 0)
def ex63 (nx : Int) : Option (List Int × Nat) := some ([65, 64], 0)
def ex64 (nx : Int) : Option (List Int × Nat) := if nx = 30 then some ([65, 64], 1) else some ([], 0)
def ex65 (nx : Int) : Option (List Int × Nat) := some ([67, 66], 0)
def ex66 (nx : Int) : Option (List Int × Nat) := if nx = 29 then some ([67, 66], 1) else some ([], 0)
def ex67 (nx : Int) : Option (List Int × Nat) := if nx = 31 then some ([67, 75], 1) else some ([69, 68], 0)
def ex68 (nx : Int) : Option (List Int × Nat) := if 18 ≤ nx ∧ nx ≤ 23 then some ([69], 1) else some ([], 0)
def ex69 (nx : Int) : Option (List Int × Nat) := some ([71, 70], 0)
def ex70 (nx : Int) : Option (List Int × Nat) := if nx = 24 ∨ nx = 25 then some ([71, 70], 1) else some ([], 0)
def ex71 (nx : Int) : Option (List Int × Nat) := some ([73, 72], 0)
def ex72 (nx : Int) : Option (List Int × Nat) := if nx = 26 ∨ nx = 27 ∨ nx = 28 then some ([73, 72], 1) else some ([], 0)
def ex73 (nx : Int) : Option (List Int × Nat) := if nx = 1 ∨ nx = 2 ∨ nx = 12 ∨ nx = 13 then some ([], 1) else if nx = 14 ∨ nx = 15 then some ([76, 61, 74, 37, 75], 1) else if nx = 25 then some ([73, 75], 1) else if nx = 36 then some ([61, 37, 75], 1) else none
def ex74 (nx : Int) : Option (List Int × Nat) := if nx = 35 then some ([61, 74], 1) else some ([], 0)
def ex76 (nx : Int) : Option (List Int × Nat) := if nx = 36 then some ([], 1) else none
/-- what a sign of the grammar becomes before the word nx, top first, and how many words it takes -/
def ex (x nx : Int) : Option (List Int × Nat) := if x = 50 then ex50 nx else if x = 51 then ex51 nx else if x = 53 then ex53 nx else if x = 54 then ex54 nx else if x = 56 then ex56 nx else if x = 57 then ex57 nx else if x = 58 then ex58 nx else if x = 59 then ex59 nx else if x = 60 then ex60 nx else if x = 61 then ex61 nx else if x = 62 then ex62 nx else if x = 63 then ex63 nx else if x = 64 then ex64 nx else if x = 65 then ex65 nx else if x = 66 then ex66 nx else if x = 67 then ex67 nx else if x = 68 then ex68 nx else if x = 69 then ex69 nx else if x = 70 then ex70 nx else if x = 71 then ex71 nx else if x = 72 then ex72 nx else if x = 73 then ex73 nx else if x = 74 then ex74 nx else if x = 76 then ex76 nx else none
theorem ex_50 {nx : Int} : ex 50 nx = ex50 nx := rfl
theorem ex_51 {nx : Int} : ex 51 nx = ex51 nx := rfl
theorem ex_53 {nx : Int} : ex 53 nx = ex53 nx := rfl
theorem ex_54 {nx : Int} : ex 54 nx = ex54 nx := rfl
theorem ex_56 {nx : Int} : ex 56 nx = ex56 nx := rfl
theorem ex_57 {nx : Int} : ex 57 nx = ex57 nx := rfl
theorem ex_58 {nx : Int} : ex 58 nx = ex58 nx := rfl
theorem ex_59 {nx : Int} : ex 59 nx = ex59 nx := rfl
theorem ex_60 {nx : Int} : ex 60 nx = ex60 nx := rfl
theorem ex_61 {nx : Int} : ex 61 nx = ex61 nx := rfl
theorem ex_62 {nx : Int} : ex 62 nx = ex62 nx := rfl
theorem ex_63 {nx : Int} : ex 63 nx = ex63 nx := rfl
theorem ex_64 {nx : Int} : ex 64 nx = ex64 nx := rfl
theorem ex_65 {nx : Int} : ex 65 nx = ex65 nx := rfl
theorem ex_66 {nx : Int} : ex 66 nx = ex66 nx := rfl
theorem ex_67 {nx : Int} : ex 67 nx = ex67 nx := rfl
theorem ex_68 {nx : Int} : ex 68 nx = ex68 nx := rfl
theorem ex_69 {nx : Int} : ex 69 nx = ex69 nx := rfl
theorem ex_70 {nx : Int} : ex 70 nx = ex70 nx := rfl
theorem ex_71 {nx : Int} : ex 71 nx = ex71 nx := rfl
theorem ex_72 {nx : Int} : ex 72 nx = ex72 nx := rfl
theorem ex_73 {nx : Int} : ex 73 nx = ex73 nx := rfl
theorem ex_74 {nx : Int} : ex 74 nx = ex74 nx := rfl
theorem ex_76 {nx : Int} : ex 76 nx = ex76 nx := rfl
/-- the signs -/
def sgs : List Int := [50, 51, 53, 54, 56, 57, 58, 59, 60, 61, 62, 63, 64, 65, 66, 67, 68, 69, 70, 71, 72, 73, 74, 75, 76, 1, 16, 17, 23, 33, 34, 37, 38]
/-- how high the pile grows over a sign -/
def hgt (x : Int) : Nat := if x = 50 then 11 else if x = 51 then 6 else if x = 53 then 8 else if x = 54 then 6 else if x = 56 then 7 else if x = 57 then 8 else if x = 58 then 1 else if x = 60 then 1 else if x = 61 then 6 else if x = 63 then 5 else if x = 64 then 5 else if x = 65 then 4 else if x = 66 then 4 else if x = 67 then 3 else if x = 68 then 2 else if x = 69 then 2 else if x = 70 then 2 else if x = 71 then 1 else if x = 72 then 1 else if x = 74 then 7 else 0
/-- how much there is to do for a sign -/
def wgt (x : Int) : Nat := if x = 51 then 16 else if x = 53 then 28 else if x = 56 then 16 else if x = 58 then 3 else if x = 61 then 13 else if x = 63 then 11 else if x = 65 then 9 else if x = 67 then 7 else if x = 69 then 5 else if x = 71 then 3 else 1
def c75 : List Int → Nat
  | [] => 0
  | x :: r => (if x = 75 then 1 else 0) + c75 r
def c76 : List Int → Nat
  | [] => 0
  | x :: r => (if x = 76 then 1 else 0) + c76 r
def swt : List Int → Nat
  | [] => 0
  | x :: r => wgt x + swt r
/-- the pile is not too high anywhere -/
def hbd : List Int → Prop
  | [] => True
  | x :: r => r.length + hgt x ≤ 11 + 9 * c75 r ∧ hbd r
/-- what is put down in place of x fits below h -/
def fits (h : Nat) : List Int → Bool
  | [] => true
  | y :: r => decide (r.length + hgt y ≤ h + 9 * c75 r) && fits h r
def chk (x : Int) (ys : List Int) (t : Nat) : Bool := fits (hgt x) ys && ys.all (fun y => sgs.contains y) && !(ys.tail.contains 76) && (decide (t = 0 ∨ t = 1)) && (decide (swt ys + 1 ≤ wgt x + 40 * t)) && (decide (t = 0 → swt ys + 1 ≤ wgt x)) && (decide (x = 50 → ys = [] ∨ (ys.getLast? = some 50 ∧ !(ys.dropLast.contains 50)))) && (decide (x ≠ 50 → !(ys.contains 50)))
theorem ex_chk {x nx : Int} {ys : List Int} {t : Nat} (h : ex x nx = some (ys, t)) : chk x ys t = true := by
  unfold ex at h
  by_cases q50 : x = 50
  · rw [if_pos q50] at h
    subst q50
    unfold ex50 at h
    by_cases c0 : nx = 0
    · rw [if_pos c0] at h; cases h; decide
    rw [if_neg c0] at h
    by_cases c1 : nx = 3 ∨ nx = 6
    · rw [if_pos c1] at h; cases h; decide
    rw [if_neg c1] at h
    by_cases c2 : nx = 4
    · rw [if_pos c2] at h; cases h; decide
    rw [if_neg c2] at h
    by_cases c3 : nx = 7 ∨ nx = 8
    · rw [if_pos c3] at h; cases h; decide
    rw [if_neg c3] at h
    by_cases c4 : nx = 11
    · rw [if_pos c4] at h; cases h; decide
    rw [if_neg c4] at h
    cases h
  rw [if_neg q50] at h
  by_cases q51 : x = 51
  · rw [if_pos q51] at h
    subst q51
    unfold ex51 at h
    cases h; decide
  rw [if_neg q51] at h
  by_cases q53 : x = 53
  · rw [if_pos q53] at h
    subst q53
    unfold ex53 at h
    by_cases c0 : nx = 5
    · rw [if_pos c0] at h; cases h; decide
    rw [if_neg c0] at h
    cases h; decide
  rw [if_neg q53] at h
  by_cases q54 : x = 54
  · rw [if_pos q54] at h
    subst q54
    unfold ex54 at h
    by_cases c0 : nx = 9
    · rw [if_pos c0] at h; cases h; decide
    rw [if_neg c0] at h
    cases h; decide
  rw [if_neg q54] at h
  by_cases q56 : x = 56
  · rw [if_pos q56] at h
    subst q56
    unfold ex56 at h
    cases h; decide
  rw [if_neg q56] at h
  by_cases q57 : x = 57
  · rw [if_pos q57] at h
    subst q57
    unfold ex57 at h
    by_cases c0 : nx = 24
    · rw [if_pos c0] at h; cases h; decide
    rw [if_neg c0] at h
    cases h; decide
  rw [if_neg q57] at h
  by_cases q58 : x = 58
  · rw [if_pos q58] at h
    subst q58
    unfold ex58 at h
    by_cases c0 : nx = 10
    · rw [if_pos c0] at h; cases h; decide
    rw [if_neg c0] at h
    cases h; decide
  rw [if_neg q58] at h
  by_cases q59 : x = 59
  · rw [if_pos q59] at h
    subst q59
    unfold ex59 at h
    by_cases c0 : nx = 36
    · rw [if_pos c0] at h; cases h; decide
    rw [if_neg c0] at h
    cases h
  rw [if_neg q59] at h
  by_cases q60 : x = 60
  · rw [if_pos q60] at h
    subst q60
    unfold ex60 at h
    by_cases c0 : nx = 29
    · rw [if_pos c0] at h; cases h; decide
    rw [if_neg c0] at h
    cases h; decide
  rw [if_neg q60] at h
  by_cases q61 : x = 61
  · rw [if_pos q61] at h
    subst q61
    unfold ex61 at h
    cases h; decide
  rw [if_neg q61] at h
  by_cases q62 : x = 62
  · rw [if_pos q62] at h
    subst q62
    unfold ex62 at h
    by_cases c0 : nx = 32
    · rw [if_pos c0] at h; cases h; decide
    rw [if_neg c0] at h
    cases h; decide
  rw [if_neg q62] at h
  by_cases q63 : x = 63
  · rw [if_pos q63] at h
    subst q63
    unfold ex63 at h
    cases h; decide
  rw [if_neg q63] at h
  by_cases q64 : x = 64
  · rw [if_pos q64] at h
    subst q64
    unfold ex64 at h
    by_cases c0 : nx = 30
    · rw [if_pos c0] at h; cases h; decide
    rw [if_neg c0] at h
    cases h; decide
  rw [if_neg q64] at h
  by_cases q65 : x = 65
  · rw [if_pos q65] at h
    subst q65
    unfold ex65 at h
    cases h; decide
  rw [if_neg q65] at h
  by_cases q66 : x = 66
  · rw [if_pos q66] at h
    subst q66
    unfold ex66 at h
    by_cases c0 : nx = 29
    · rw [if_pos c0] at h; cases h; decide
    rw [if_neg c0] at h
    cases h; decide
  rw [if_neg q66] at h
  by_cases q67 : x = 67
  · rw [if_pos q67] at h
    subst q67
    unfold ex67 at h
    by_cases c0 : nx = 31
    · rw [if_pos c0] at h; cases h; decide
    rw [if_neg c0] at h
    cases h; decide
  rw [if_neg q67] at h
  by_cases q68 : x = 68
  · rw [if_pos q68] at h
    subst q68
    unfold ex68 at h
    by_cases c0 : 18 ≤ nx ∧ nx ≤ 23
    · rw [if_pos c0] at h; cases h; decide
    rw [if_neg c0] at h
    cases h; decide
  rw [if_neg q68] at h
  by_cases q69 : x = 69
  · rw [if_pos q69] at h
    subst q69
    unfold ex69 at h
    cases h; decide
  rw [if_neg q69] at h
  by_cases q70 : x = 70
  · rw [if_pos q70] at h
    subst q70
    unfold ex70 at h
    by_cases c0 : nx = 24 ∨ nx = 25
    · rw [if_pos c0] at h; cases h; decide
    rw [if_neg c0] at h
    cases h; decide
  rw [if_neg q70] at h
  by_cases q71 : x = 71
  · rw [if_pos q71] at h
    subst q71
    unfold ex71 at h
    cases h; decide
  rw [if_neg q71] at h
  by_cases q72 : x = 72
  · rw [if_pos q72] at h
    subst q72
    unfold ex72 at h
    by_cases c0 : nx = 26 ∨ nx = 27 ∨ nx = 28
    · rw [if_pos c0] at h; cases h; decide
    rw [if_neg c0] at h
    cases h; decide
  rw [if_neg q72] at h
  by_cases q73 : x = 73
  · rw [if_pos q73] at h
    subst q73
    unfold ex73 at h
    by_cases c0 : nx = 1 ∨ nx = 2 ∨ nx = 12 ∨ nx = 13
    · rw [if_pos c0] at h; cases h; decide
    rw [if_neg c0] at h
    by_cases c1 : nx = 14 ∨ nx = 15
    · rw [if_pos c1] at h; cases h; decide
    rw [if_neg c1] at h
    by_cases c2 : nx = 25
    · rw [if_pos c2] at h; cases h; decide
    rw [if_neg c2] at h
    by_cases c3 : nx = 36
    · rw [if_pos c3] at h; cases h; decide
    rw [if_neg c3] at h
    cases h
  rw [if_neg q73] at h
  by_cases q74 : x = 74
  · rw [if_pos q74] at h
    subst q74
    unfold ex74 at h
    by_cases c0 : nx = 35
    · rw [if_pos c0] at h; cases h; decide
    rw [if_neg c0] at h
    cases h; decide
  rw [if_neg q74] at h
  by_cases q76 : x = 76
  · rw [if_pos q76] at h
    subst q76
    unfold ex76 at h
    by_cases c0 : nx = 36
    · rw [if_pos c0] at h; cases h; decide
    rw [if_neg c0] at h
    cases h
  rw [if_neg q76] at h
  cases h
end
section
/-! The reference: the pile of what is wanted. -/
/-- the list at p holds st, top first -/
def St (M : mM) (p : Nat) (st : List Int) : Prop := ln M p = st.length ∧ ∀ i, i < st.length → nt M p (st.length - 1 - i) = st.getD i 0
theorem St.add {M M' : mM} {p B : Nat} {v : Int} {st : List Int} (h : St M p st) (t : adB B M p v M') : St M' p (v :: st) := by
  obtain ⟨h1, h2⟩ := h
  obtain ⟨-, -, -, t4, t5, t6, -⟩ := t
  refine ⟨by rw [t4, h1, List.length_cons]; omega, fun i hi => ?_⟩
  rw [List.length_cons] at hi ⊢
  cases i with
  | zero =>
    rw [show st.length + 1 - 1 - 0 = (ln M p).toNat by first | rfl | omega, t6]
    rfl
  | succ i =>
    rw [t5 _ (by omega), show st.length + 1 - 1 - (i + 1) = st.length - 1 - i by first | rfl | omega, h2 i (by omega)]
    rfl
theorem St.take {M M' : mM} {p : Nat} {x y : Int} {st : List Int} (h : St M p (x :: st)) (t : tkQ M p y M') : St M' p st ∧ y = x := by
  obtain ⟨h1, h2⟩ := h
  obtain ⟨-, -, -, t4, t5, t6⟩ := t
  rw [List.length_cons] at h1 h2
  refine ⟨⟨by omega, fun i hi => ?_⟩, ?_⟩
  · rw [t5]
    have a := h2 (i + 1) (by omega)
    rw [show st.length + 1 - 1 - (i + 1) = st.length - 1 - i by first | rfl | omega] at a
    rw [a]
    rfl
  · have a := h2 0 (by omega)
    rw [t6, show (ln M p - 1).toNat = st.length + 1 - 1 - 0 by first | rfl | omega, a]
    rfl
theorem St.same {M M' : mM} {p : Nat} {st : List Int} (h : St M p st) (s : sameN M M' p) : St M' p st := by
  obtain ⟨h1, h2⟩ := h
  exact ⟨by rw [s.1]; exact h1, fun i hi => by rw [s.2.1]; exact h2 i hi⟩
abbrev qP (a : Nat) : Nat → Prop := fun x => x = a + 11
abbrev qS (a : Nat) : Nat → Prop := fun x => x = a
def SI (M : mM) (a : Nat) (st : List Int) (lv : Int) (M2 : mM) : Prop := Mv (qP a) (qS a) M a M2 ∧ (∀ j, j ≠ 7 → mI M2 a j = mI M a j) ∧ St M2 (a + 11) st ∧ mI M2 a 7 = lv
def dlv (x : Int) (ys : List Int) : Int := c75 ys - c76 ys + (if x = 76 then 1 else 0)
def pQ (M : mM) (a : Nat) (st : List Int) (x nx r : Int) (M' : mM) : Prop := Mv (qP a) (qS a) M a M' ∧ (∀ j, j ≠ 7 → mI M' a j = mI M a j) ∧ (r = -1 ∨ ∃ ys t, ex x nx = some (ys, t) ∧ r = (t : Int) ∧ St M' (a + 11) (ys ++ st) ∧ mI M' a 7 = mI M a 7 + dlv x ys ∧ (mI M' a 7 = mI M a 7 ∨ mI M' a 7 ≤ 40))
section PI
variable {G : mG} {d a : Nat} {M M2 : mM} {st : List Int} {lv : Int}
theorem q11 : a + 11 ∈ nums a := nums_o (by decide)
theorem SI.wd (h : SI M a st lv M2) : Wd M2 a := h.1.2.1
theorem SI.ok (h : SI M a st lv M2) : mOk M2 := h.1.1
theorem SI.k (h : SI M a st lv M2) : mK M2 a = 14 := h.wd.1.1
theorem SI.r6 (h : SI M a st lv M2) : mR M2 a 6 = a + 11 := h.wd.1.2.2.1.2.2.2
theorem SI.k6 (h : SI M a st lv M2) : mK M2 (a + 11) = 15 := (h.wd.nu q11).1
theorem SI.push {v : Int} (h : SI M a st lv M2) (hl : st.length ≤ 1000) (hv : i32 v) : Cv G y_MN_add d [vr (a + 11), vi v] M2 (fun M3 => SI M a (v :: st) lv M3) := by
  obtain ⟨m, f, s, l⟩ := h
  have w := m.2.1
  refine (s_MN_add hv m.1 (w.nu q11) (by rw [s.1]; omega)).mono (fun M3 t => ?_)
  have m3 := mv_add w q11 t
  have f3 := (m3.fld w (fun q hq => by rw [hq]; exact q11) (fun hq => hq)).1
  exact ⟨m.trans (m3.mono (fun q hq => hq) (fun x hx => hx.elim) (fun q hq => by rw [hq]; exact w.lt q11)), fun j hj => by rw [f3]; exact f j hj, s.add t, by rw [f3]; exact l⟩
/-- a step is done -/
theorem SI.done {x nx : Int} {ys : List Int} {t : Nat} (h : SI M a (ys ++ st) lv M2) (he : ex x nx = some (ys, t)) (hl : lv = mI M a 7 + dlv x ys) (h4 : lv = mI M a 7 ∨ lv ≤ 40) : pQ M a st x nx (t : Int) M2 :=
  ⟨h.1, h.2.1, Or.inr ⟨ys, t, he, rfl, h.2.2.1, by rw [h.2.2.2]; exact hl, by rw [h.2.2.2]; exact h4⟩⟩
theorem SI.fail {x nx : Int} {st' : List Int} (h : SI M a st' lv M2) : pQ M a st x nx (-1) M2 := ⟨h.1, h.2.1, Or.inl rfl⟩
theorem s_MM_want {u v w : Int} (h : SI M a st lv M2) (hl : st.length ≤ 900) (hu : i32 u) (hv : i32 v) (hw : i32 w) : Cv G y_MM_want (d + 1) [vr a, vi u, vi v, vi w] M2 (fun M3 => SI M a (u :: v :: w :: st) lv M3) := by
  refine k_MM_want h.ok hu hv hw ?_
  rw [h.r6]
  refine ⟨h.k, h.k6, (h.push (by omega) hw).mono (fun M3 h3 => ?_)⟩
  rw [h3.r6]
  refine ⟨h3.ok, h3.k, h3.k6, (h3.push (by rw [List.length_cons]; omega) hv).mono (fun M4 h4 => ?_)⟩
  rw [h4.r6]
  refine ⟨h4.ok, h4.k, h4.k6, (h4.push (by rw [List.length_cons, List.length_cons]; omega) hu).mono (fun M5 h5 => ⟨h5.ok, h5⟩)⟩
/-- two signs are put down -/
theorem SI.two {u v : Int} {Q : mM → Prop} (h : SI M a st lv M2) (hl : st.length ≤ 900) (hu : i32 u) (hv : i32 v) (hQ : ∀ M3, SI M a (v :: u :: st) lv M3 → Q M3) : Cv G y_MN_add d [vr (a + 11), vi u] M2 (fun M3 => mOk M3 ∧ (mK M3 a = 14 ∧ mK M3 (mR M3 a 6) = 15 ∧ Cv G y_MN_add d [vr (mR M3 a 6), vi v] M3 (fun M4 => mOk M4 ∧ Q M4))) := by
  refine (h.push (by omega) hu).mono (fun M3 h3 => ?_)
  rw [h3.r6]
  exact ⟨h3.ok, h3.k, h3.k6, (h3.push (by rw [List.length_cons]; omega) hv).mono (fun M4 h4 => ⟨h4.ok, hQ M4 h4⟩)⟩
theorem s_MM_again {g u v : Int} (h : SI M a st lv M2) (hl : st.length ≤ 900) (hg : i32 g) (hu : i32 u) (hv : i32 v) : Ci G y_MM_again (d + 1) [vr a, vi g, vi u, vi v] M2 (fun r M3 => (g = 0 ∧ r = 0 ∧ M3 = M2) ∨ (g ≠ 0 ∧ r = 1 ∧ SI M a (v :: u :: st) lv M3)) := by
  refine k_MM_again h.ok hg hu hv ?_
  rw [h.r6]
  exact ⟨fun w => Or.inl ⟨w, rfl, rfl⟩, fun w => ⟨h.k, h.k6, h.two hl hu hv (fun M3 h3 => Or.inr ⟨w, rfl, h3⟩)⟩⟩
theorem s_MM_isComparison {x : Int} (hx : i32 x) (hO : mOk M2) : Ci G y_MM_isComparison d [vi x] M2 (fun r M3 => M3 = M2 ∧ (r = 0 ∨ r = 1) ∧ (r ≠ 0 ↔ (18 ≤ x ∧ x ≤ 23))) := by
  refine k_MM_isComparison hO hx (fun v hv => ⟨rfl, ?_, ?_⟩)
  · split at hv <;> omega
  · split at hv <;> omega
end PI
end
section
/-! The reference: one step of the grammar. -/
section IT
variable {G : mG} {d a : Nat} {M : mM} {st : List Int} {nx : Int}
theorem SI.start (hO : mOk M) (h : Wd M a) (hs : St M (a + 11) st) : SI M a st (mI M a 7) M := ⟨Mv.refl hO h (fun q hq => by rw [hq]; exact h.lt q11), fun _ _ => rfl, hs, rfl⟩
theorem i32s {x : Int} (h0 : -100000 ≤ x) (h1 : x ≤ 100000) : i32 x := ⟨by omega, by omega⟩
theorem dl0 {M : mM} {a : Nat} {x : Int} {ys : List Int} (h1 : c75 ys = 0) (h2 : c76 ys = 0) (h3 : x ≠ 76) : mI M a 7 = mI M a 7 + dlv x ys := by unfold dlv; rw [h1, h2, if_neg h3]; omega
theorem dl1 {M : mM} {a : Nat} {x : Int} {ys : List Int} (h1 : c75 ys = 1) (h2 : c76 ys = 0) (h3 : x ≠ 76) : mI M a 7 + 1 = mI M a 7 + dlv x ys := by unfold dlv; rw [h1, h2, if_neg h3]; omega
end IT
end
end
section
section
/-! The reference: one step of the grammar of rules. -/
section RU
variable {G : mG} {d a : Nat} {M : mM} {st : List Int} {nx : Int}
theorem pq_i32 {x r : Int} {M2 : mM} (h : pQ M a st x nx r M2) : i32 r := by
  rcases h.2.2 with q | ⟨ys, t, e, q, -⟩
  · rw [q]; exact i32s (by omega) (by omega)
  · have c := ex_chk e
    unfold chk at c
    simp only [Bool.and_eq_true, decide_eq_true_eq] at c
    exact i32s (by omega) (by omega)
end RU
end
section
/-! The reference: reading the text by its grammar. -/
theorem ex_t1 {x nx : Int} {ys : List Int} (h : ex x nx = some (ys, 1)) (hn : nx = 0 ∨ nx = 39) : x = 50 ∧ nx = 0 ∧ ys = [] := by
  unfold ex at h
  by_cases q50 : x = 50
  · rw [if_pos q50] at h
    unfold ex50 at h
    by_cases c0 : nx = 0
    · rw [if_pos c0] at h; cases h; exact ⟨q50, c0, rfl⟩
    rw [if_neg c0] at h
    rw [if_neg (by omega)] at h
    rw [if_neg (by omega)] at h
    rw [if_neg (by omega)] at h
    rw [if_neg (by omega)] at h
    cases h
  rw [if_neg q50] at h
  by_cases q51 : x = 51
  · rw [if_pos q51] at h
    unfold ex51 at h
    cases h
  rw [if_neg q51] at h
  by_cases q53 : x = 53
  · rw [if_pos q53] at h
    unfold ex53 at h
    rw [if_neg (by omega)] at h
    cases h
  rw [if_neg q53] at h
  by_cases q54 : x = 54
  · rw [if_pos q54] at h
    unfold ex54 at h
    rw [if_neg (by omega)] at h
    cases h
  rw [if_neg q54] at h
  by_cases q56 : x = 56
  · rw [if_pos q56] at h
    unfold ex56 at h
    cases h
  rw [if_neg q56] at h
  by_cases q57 : x = 57
  · rw [if_pos q57] at h
    unfold ex57 at h
    rw [if_neg (by omega)] at h
    cases h
  rw [if_neg q57] at h
  by_cases q58 : x = 58
  · rw [if_pos q58] at h
    unfold ex58 at h
    rw [if_neg (by omega)] at h
    cases h
  rw [if_neg q58] at h
  by_cases q59 : x = 59
  · rw [if_pos q59] at h
    unfold ex59 at h
    rw [if_neg (by omega)] at h
    cases h
  rw [if_neg q59] at h
  by_cases q60 : x = 60
  · rw [if_pos q60] at h
    unfold ex60 at h
    rw [if_neg (by omega)] at h
    cases h
  rw [if_neg q60] at h
  by_cases q61 : x = 61
  · rw [if_pos q61] at h
    unfold ex61 at h
    cases h
  rw [if_neg q61] at h
  by_cases q62 : x = 62
  · rw [if_pos q62] at h
    unfold ex62 at h
    rw [if_neg (by omega)] at h
    cases h
  rw [if_neg q62] at h
  by_cases q63 : x = 63
  · rw [if_pos q63] at h
    unfold ex63 at h
    cases h
  rw [if_neg q63] at h
  by_cases q64 : x = 64
  · rw [if_pos q64] at h
    unfold ex64 at h
    rw [if_neg (by omega)] at h
    cases h
  rw [if_neg q64] at h
  by_cases q65 : x = 65
  · rw [if_pos q65] at h
    unfold ex65 at h
    cases h
  rw [if_neg q65] at h
  by_cases q66 : x = 66
  · rw [if_pos q66] at h
    unfold ex66 at h
    rw [if_neg (by omega)] at h
    cases h
  rw [if_neg q66] at h
  by_cases q67 : x = 67
  · rw [if_pos q67] at h
    unfold ex67 at h
    rw [if_neg (by omega)] at h
    cases h
  rw [if_neg q67] at h
  by_cases q68 : x = 68
  · rw [if_pos q68] at h
    unfold ex68 at h
    rw [if_neg (by omega)] at h
    cases h
  rw [if_neg q68] at h
  by_cases q69 : x = 69
  · rw [if_pos q69] at h
    unfold ex69 at h
    cases h
  rw [if_neg q69] at h
  by_cases q70 : x = 70
  · rw [if_pos q70] at h
    unfold ex70 at h
    rw [if_neg (by omega)] at h
    cases h
  rw [if_neg q70] at h
  by_cases q71 : x = 71
  · rw [if_pos q71] at h
    unfold ex71 at h
    cases h
  rw [if_neg q71] at h
  by_cases q72 : x = 72
  · rw [if_pos q72] at h
    unfold ex72 at h
    rw [if_neg (by omega)] at h
    cases h
  rw [if_neg q72] at h
  by_cases q73 : x = 73
  · rw [if_pos q73] at h
    unfold ex73 at h
    rw [if_neg (by omega)] at h
    rw [if_neg (by omega)] at h
    rw [if_neg (by omega)] at h
    rw [if_neg (by omega)] at h
    cases h
  rw [if_neg q73] at h
  by_cases q74 : x = 74
  · rw [if_pos q74] at h
    unfold ex74 at h
    rw [if_neg (by omega)] at h
    cases h
  rw [if_neg q74] at h
  by_cases q76 : x = 76
  · rw [if_pos q76] at h
    unfold ex76 at h
    rw [if_neg (by omega)] at h
    cases h
  rw [if_neg q76] at h
  cases h
/-- the words from k on, up to n, are what st wants; in f steps -/
def Ac (w : Nat → Int) (n : Nat) : Nat → List Int → Nat → Prop
  | 0, st, k => st = [] ∧ k = n
  | _ + 1, [], _ => False
  | f + 1, x :: r, k => if x = 75 then Ac w n f r k else if x < 50 then w k = x ∧ Ac w n f r (k + 1) else ∃ ys t, ex x (w k) = some (ys, t) ∧ Ac w n f (ys ++ r) (k + t)
theorem c75_app : ∀ (u v : List Int), c75 (u ++ v) = c75 u + c75 v
  | [], v => by show c75 v = 0 + c75 v; omega
  | x :: u, v => by show (if x = 75 then 1 else 0) + c75 (u ++ v) = (if x = 75 then 1 else 0) + c75 u + c75 v; rw [c75_app u v]; omega
theorem c76_app : ∀ (u v : List Int), c76 (u ++ v) = c76 u + c76 v
  | [], v => by show c76 v = 0 + c76 v; omega
  | x :: u, v => by show (if x = 76 then 1 else 0) + c76 (u ++ v) = (if x = 76 then 1 else 0) + c76 u + c76 v; rw [c76_app u v]; omega
theorem swt_app : ∀ (u v : List Int), swt (u ++ v) = swt u + swt v
  | [], v => by show swt v = 0 + swt v; omega
  | x :: u, v => by show wgt x + swt (u ++ v) = wgt x + swt u + swt v; rw [swt_app u v]; omega
theorem c76_no : ∀ (u : List Int), 76 ∉ u → c76 u = 0
  | [], _ => rfl
  | x :: u, h => by
    show (if x = 76 then 1 else 0) + c76 u = 0
    rw [if_neg (fun q => h (by rw [q]; exact List.mem_cons_self ..)), c76_no u (fun q => h (List.mem_cons_of_mem _ q))]
theorem hbd_app {h : Nat} {r : List Int} (hr : hbd r) (hh : r.length + h ≤ 11 + 9 * c75 r) : ∀ (ys : List Int), fits h ys = true → hbd (ys ++ r)
  | [], _ => hr
  | y :: ys, hf => by
    unfold fits at hf
    simp only [Bool.and_eq_true, decide_eq_true_eq] at hf
    refine ⟨?_, hbd_app hr hh ys hf.2⟩
    show (ys ++ r).length + hgt y ≤ 11 + 9 * c75 (ys ++ r)
    rw [List.length_append, c75_app]
    omega
theorem wgt_pos {x : Int} : 1 ≤ wgt x := by unfold wgt; (repeat' split) <;> decide
/-- a pile in order -/
def gdS (st : List Int) : Prop := hbd st ∧ (∀ x, x ∈ st → x ∈ sgs) ∧ 76 ∉ st.tail
theorem gdS.len {st : List Int} (h : gdS st) {lv : Int} (hl : lv = (c75 st : Int) - c76 st) (h4 : lv ≤ 40) : st.length ≤ 400 ∧ -2 ≤ lv := by
  obtain ⟨h1, -, h3⟩ := h
  cases st with
  | nil => exact ⟨Nat.zero_le _, by rw [hl]; show (-2 : Int) ≤ ((0 : Nat) : Int) - ((0 : Nat) : Int); omega⟩
  | cons x r =>
    have e1 : c75 (x :: r) = (if x = 75 then 1 else 0) + c75 r := rfl
    have e2 : c76 (x :: r) = (if x = 76 then 1 else 0) + c76 r := rfl
    have e3 := c76_no r h3
    have e4 := h1.1
    rw [List.length_cons]
    by_cases q : x = 76
    · rw [if_pos q] at e2
      rw [if_neg (by omega)] at e1
      omega
    · rw [if_neg q] at e2
      split at e1 <;> omega
theorem gdS.step {x : Int} {r ys : List Int} {t : Nat} {nx : Int} (h : gdS (x :: r)) (he : ex x nx = some (ys, t)) : gdS (ys ++ r) ∧ (t = 0 ∨ t = 1) ∧ swt ys + 1 ≤ wgt x + 40 * t ∧ (x = 50 → ys = [] ∨ ∃ s, ys = s ++ [50] ∧ 50 ∉ s) ∧ (x ≠ 50 → 50 ∉ ys) := by
  obtain ⟨h1, h2, h3⟩ := h
  have c := ex_chk he
  unfold chk at c
  simp only [Bool.and_eq_true, decide_eq_true_eq] at c
  obtain ⟨⟨⟨⟨⟨⟨⟨c1, c2⟩, c3⟩, c4⟩, c5⟩, c6⟩, c7⟩, c8⟩ := c
  refine ⟨⟨hbd_app h1.2 h1.1 ys c1, fun y hy => ?_, ?_⟩, c4, c5, fun q => ?_, fun q => ?_⟩
  · rcases List.mem_append.1 hy with w | w
    · have := List.all_eq_true.1 c2 y w
      simpa using this
    · exact h2 y (List.mem_cons_of_mem _ w)
  · have h3' : 76 ∉ r := h3
    cases ys with
    | nil =>
      intro w
      exact h3' (List.mem_of_mem_tail w)
    | cons y u =>
      intro w
      have w' : 76 ∈ u ++ r := w
      rcases List.mem_append.1 w' with z | z
      · have c3' : ((y :: u).tail.contains 76) = false := by simpa using c3
        have : u.contains 76 = true := by simpa using z
        have e : (y :: u).tail = u := rfl
        rw [e] at c3'
        rw [c3'] at this
        exact absurd this (by decide)
      · exact h3' z
  · rcases c7 q with w | w
    · exact Or.inl w
    · refine Or.inr ⟨ys.dropLast, ?_, ?_⟩
      · have hne : ys ≠ [] := fun z => by rw [z] at w; simp at w
        have e := List.dropLast_concat_getLast hne
        have e2 := List.getLast?_eq_getLast hne
        rw [e2] at w
        have w1 : ys.getLast hne = 50 := by simpa using w.1
        rw [w1] at e
        exact e.symm
      · simpa using w.2
  · have := c8 q
    simpa using this
end
section
/-! The reference: readText. -/
section RT
variable {G : mG} {d a : Nat} {M : mM} {N : Nat}
/-- the words: c of them sound, then the end or a wrong one -/
def wrds (M : mM) (a N : Nat) : Prop := 1 ≤ N ∧ N ≤ 16385 ∧ ln M (a + 5) = N ∧ (∀ j, j + 1 < N → 1 ≤ nt M (a + 5) j ∧ nt M (a + 5) j ≤ 38) ∧ (nt M (a + 5) (N - 1) = 0 ∨ nt M (a + 5) (N - 1) = 39)
def rdI (M : mM) (a : Nat) (M2 : mM) : Prop := Mv (qP a) (qS a) M a M2 ∧ ∀ j, j ≠ 7 → j ≠ 8 → mI M2 a j = mI M a j
def rdQ (M : mM) (a N : Nat) (v : Int) (M' : mM) : Prop := rdI M a M' ∧ ((v = 0 ∧ 0 ≤ mI M' a 8 ∧ mI M' a 8 < N) ∨ (v = 1 ∧ nt M (a + 5) (N - 1) = 0 ∧ ∃ f, Ac (nt M (a + 5)) N f [50] 0))
theorem rdI.fld {M2 M3 : mM} {j : Nat} {v : Int} (h : rdI M a M2) (hv : i32 v) (hj : j = 7 ∨ j = 8) (e : M3 = mUI M2 a j v) : rdI M a M3 ∧ (∀ i, mI M3 a i = if i = j then v else mI M2 a i) ∧ ∀ q, q ∈ nums a → sameN M2 M3 q := by
  have w := h.1.2.1
  obtain ⟨m3, f3⟩ := mv_fld hv h.1.1 w e
  exact ⟨⟨h.1.trans (m3.mono (fun q hq => hq.elim) (fun x hx => hx) (fun q hq => by rw [hq]; exact w.lt q11)), fun i i7 i8 => by rw [f3, if_neg (by omega)]; exact h.2 i i7 i8⟩, f3, fun q hq => m3.2.2.2.2 q hq (fun z => z)⟩
theorem sgs_term : ∀ x, x ∈ sgs → x < 50 → (1 ≤ x ∧ x ≤ 38) := by decide
theorem sgs_item : ∀ x, x ∈ sgs → 50 ≤ x → x < 61 → (x = 50 ∨ x = 51 ∨ x = 53 ∨ x = 54 ∨ x = 56 ∨ x = 57 ∨ x = 58 ∨ x = 59 ∨ x = 60) := by decide
theorem sgs_rule : ∀ x, x ∈ sgs → 61 ≤ x → x ≠ 75 → (x = 61 ∨ x = 62 ∨ x = 63 ∨ x = 64 ∨ x = 65 ∨ x = 66 ∨ x = 67 ∨ x = 68 ∨ x = 69 ∨ x = 70 ∨ x = 71 ∨ x = 72 ∨ x = 73 ∨ x = 74 ∨ x = 76) := by decide
theorem sgs_b : ∀ x, x ∈ sgs → 1 ≤ x ∧ x ≤ 76 := by decide
end RT
end
section
/-! The reference: what the grammar means for rules. -/
/-- words i to j - 1 are an expression of strength c (0 tight, 6 loose; 7: a list of them), n deep -/
def Ex (w : Nat → Int) : Nat → Nat → Nat → Nat → Prop
  | 0, _, _, _ => False
  | n + 1, c, i, j =>
    if c = 0 then (j = i + 1 ∧ (w i = 1 ∨ w i = 2 ∨ w i = 12 ∨ w i = 13)) ∨ (w i = 25 ∧ Ex w n 0 (i + 1) j) ∨ (w i = 36 ∧ w (j - 1) = 37 ∧ Ex w n 6 (i + 1) (j - 1)) ∨ ((w i = 14 ∨ w i = 15) ∧ w (i + 1) = 36 ∧ w (j - 1) = 37 ∧ Ex w n 7 (i + 2) (j - 1))
    else if c = 1 then Ex w n 0 i j ∨ ∃ m, (w m = 26 ∨ w m = 27 ∨ w m = 28) ∧ Ex w n 1 i m ∧ Ex w n 0 (m + 1) j
    else if c = 2 then Ex w n 1 i j ∨ ∃ m, (w m = 24 ∨ w m = 25) ∧ Ex w n 2 i m ∧ Ex w n 1 (m + 1) j
    else if c = 3 then Ex w n 2 i j ∨ (∃ m, (18 ≤ w m ∧ w m ≤ 23) ∧ Ex w n 2 i m ∧ Ex w n 2 (m + 1) j) ∨ (w i = 31 ∧ Ex w n 3 (i + 1) j)
    else if c = 4 then Ex w n 3 i j ∨ ∃ m, w m = 29 ∧ Ex w n 4 i m ∧ Ex w n 3 (m + 1) j
    else if c = 5 then Ex w n 4 i j ∨ ∃ m, w m = 30 ∧ Ex w n 5 i m ∧ Ex w n 4 (m + 1) j
    else if c = 6 then Ex w n 5 i j ∨ ∃ m q, w m = 32 ∧ w q = 33 ∧ Ex w n 5 i m ∧ Ex w n 6 (m + 1) q ∧ Ex w n 6 (q + 1) j
    else if c = 7 then Ex w n 6 i j ∨ ∃ m, w m = 35 ∧ Ex w n 7 i m ∧ Ex w n 6 (m + 1) j
    else False
section EX
variable {w : Nat → Int}
theorem Ex.up : ∀ {n c i j : Nat}, Ex w n c i j → Ex w (n + 1) c i j := by
  intro n
  induction n with
  | zero => intro c i j h; exact h.elim
  | succ n ih =>
    intro c i j h
    rw [Ex] at h ⊢
    by_cases c0 : c = 0
    · rw [if_pos c0] at h ⊢
      rcases h with h | h | h | h
      · exact Or.inl h
      · exact Or.inr (Or.inl ⟨h.1, ih h.2⟩)
      · exact Or.inr (Or.inr (Or.inl ⟨h.1, h.2.1, ih h.2.2⟩))
      · exact Or.inr (Or.inr (Or.inr ⟨h.1, h.2.1, h.2.2.1, ih h.2.2.2⟩))
    rw [if_neg c0] at h ⊢
    by_cases c1 : c = 1
    · rw [if_pos c1] at h ⊢
      rcases h with h | ⟨m, h1, h2, h3⟩
      · exact Or.inl (ih h)
      · exact Or.inr ⟨m, h1, ih h2, ih h3⟩
    rw [if_neg c1] at h ⊢
    by_cases c2 : c = 2
    · rw [if_pos c2] at h ⊢
      rcases h with h | ⟨m, h1, h2, h3⟩
      · exact Or.inl (ih h)
      · exact Or.inr ⟨m, h1, ih h2, ih h3⟩
    rw [if_neg c2] at h ⊢
    by_cases c3 : c = 3
    · rw [if_pos c3] at h ⊢
      rcases h with h | ⟨m, h1, h2, h3⟩ | ⟨h1, h2⟩
      · exact Or.inl (ih h)
      · exact Or.inr (Or.inl ⟨m, h1, ih h2, ih h3⟩)
      · exact Or.inr (Or.inr ⟨h1, ih h2⟩)
    rw [if_neg c3] at h ⊢
    by_cases c4 : c = 4
    · rw [if_pos c4] at h ⊢
      rcases h with h | ⟨m, h1, h2, h3⟩
      · exact Or.inl (ih h)
      · exact Or.inr ⟨m, h1, ih h2, ih h3⟩
    rw [if_neg c4] at h ⊢
    by_cases c5 : c = 5
    · rw [if_pos c5] at h ⊢
      rcases h with h | ⟨m, h1, h2, h3⟩
      · exact Or.inl (ih h)
      · exact Or.inr ⟨m, h1, ih h2, ih h3⟩
    rw [if_neg c5] at h ⊢
    by_cases c6 : c = 6
    · rw [if_pos c6] at h ⊢
      rcases h with h | ⟨m, q, h1, h2, h3, h4, h5⟩
      · exact Or.inl (ih h)
      · exact Or.inr ⟨m, q, h1, h2, ih h3, ih h4, ih h5⟩
    rw [if_neg c6] at h ⊢
    by_cases c7 : c = 7
    · rw [if_pos c7] at h ⊢
      rcases h with h | ⟨m, h1, h2, h3⟩
      · exact Or.inl (ih h)
      · exact Or.inr ⟨m, h1, ih h2, ih h3⟩
    · rw [if_neg c7] at h
      exact h.elim
theorem Ex.add {n c i j : Nat} (h : Ex w n c i j) : ∀ k, Ex w (n + k) c i j
  | 0 => h
  | k + 1 => (Ex.add h k).up
/-- at some depth -/
def Eo (w : Nat → Int) (c i j : Nat) : Prop := ∃ n, Ex w n c i j
theorem Ex.le {n m c i j : Nat} (h : Ex w n c i j) (hl : n ≤ m) : Ex w m c i j := by
  have := h.add (m - n)
  rw [show n + (m - n) = m by first | rfl | omega] at this
  exact this
theorem Eo.two {c1 i1 j1 c2 i2 j2 : Nat} (h1 : Eo w c1 i1 j1) (h2 : Eo w c2 i2 j2) : ∃ n, Ex w n c1 i1 j1 ∧ Ex w n c2 i2 j2 := by
  obtain ⟨n1, h1⟩ := h1
  obtain ⟨n2, h2⟩ := h2
  exact ⟨n1 + n2, h1.le (by omega), h2.le (by omega)⟩
theorem Eo.one {c i j : Nat} (hc : c ≤ 6) (h : Eo w c i j) : Eo w (c + 1) i j := by
  obtain ⟨n, h⟩ := h
  refine ⟨n + 1, ?_⟩
  have hc' : c = 0 ∨ c = 1 ∨ c = 2 ∨ c = 3 ∨ c = 4 ∨ c = 5 ∨ c = 6 := by omega
  rcases hc' with q | q | q | q | q | q | q <;> subst q <;> rw [Ex]
  · exact Or.inl h
  · exact Or.inl h
  · exact Or.inl h
  · exact Or.inl h
  · exact Or.inl h
  · exact Or.inl h
  · exact Or.inl h
theorem Eo.six {c i j : Nat} (hc : c ≤ 6) (h : Eo w c i j) : Eo w 6 i j := by
  suffices H : ∀ k c, c + k = 6 → Eo w c i j → Eo w 6 i j from H (6 - c) c (by omega) h
  intro k
  induction k with
  | zero => intro c e h; have : c = 6 := by omega
            subst this; exact h
  | succ k ih => intro c e h; exact ih (c + 1) (by omega) (h.one (by omega))
theorem eo0_leaf {i : Nat} (h : w i = 1 ∨ w i = 2 ∨ w i = 12 ∨ w i = 13) : Eo w 0 i (i + 1) := ⟨1, by rw [Ex]; exact Or.inl ⟨rfl, h⟩⟩
theorem eo0_neg {i j : Nat} (h : w i = 25) (h2 : Eo w 0 (i + 1) j) : Eo w 0 i j := by
  obtain ⟨n, h2⟩ := h2
  exact ⟨n + 1, by rw [Ex]; exact Or.inr (Or.inl ⟨h, h2⟩)⟩
theorem eo0_par {i j : Nat} (h : w i = 36) (h1 : w j = 37) (h2 : Eo w 6 (i + 1) j) : Eo w 0 i (j + 1) := by
  obtain ⟨n, h2⟩ := h2
  exact ⟨n + 1, by rw [Ex]; exact Or.inr (Or.inr (Or.inl ⟨h, h1, h2⟩))⟩
theorem eo0_lst {i j : Nat} (h : w i = 14 ∨ w i = 15) (h0 : w (i + 1) = 36) (h1 : w j = 37) (h2 : Eo w 7 (i + 2) j) : Eo w 0 i (j + 1) := by
  obtain ⟨n, h2⟩ := h2
  exact ⟨n + 1, by rw [Ex]; exact Or.inr (Or.inr (Or.inr ⟨h, h0, h1, h2⟩))⟩
theorem eo1 {i m j : Nat} (h : w m = 26 ∨ w m = 27 ∨ w m = 28) (h1 : Eo w 1 i m) (h2 : Eo w 0 (m + 1) j) : Eo w 1 i j := by
  obtain ⟨n, a, b⟩ := h1.two h2
  exact ⟨n + 1, by rw [Ex]; exact Or.inr ⟨m, h, a, b⟩⟩
theorem eo2 {i m j : Nat} (h : w m = 24 ∨ w m = 25) (h1 : Eo w 2 i m) (h2 : Eo w 1 (m + 1) j) : Eo w 2 i j := by
  obtain ⟨n, a, b⟩ := h1.two h2
  exact ⟨n + 1, by rw [Ex]; exact Or.inr ⟨m, h, a, b⟩⟩
theorem eo3 {i m j : Nat} (h : 18 ≤ w m ∧ w m ≤ 23) (h1 : Eo w 2 i m) (h2 : Eo w 2 (m + 1) j) : Eo w 3 i j := by
  obtain ⟨n, a, b⟩ := h1.two h2
  exact ⟨n + 1, by rw [Ex]; exact Or.inr (Or.inl ⟨m, h, a, b⟩)⟩
theorem eo3n {i j : Nat} (h : w i = 31) (h2 : Eo w 3 (i + 1) j) : Eo w 3 i j := by
  obtain ⟨n, a⟩ := h2
  exact ⟨n + 1, by rw [Ex]; exact Or.inr (Or.inr ⟨h, a⟩)⟩
theorem eo4 {i m j : Nat} (h : w m = 29) (h1 : Eo w 4 i m) (h2 : Eo w 3 (m + 1) j) : Eo w 4 i j := by
  obtain ⟨n, a, b⟩ := h1.two h2
  exact ⟨n + 1, by rw [Ex]; exact Or.inr ⟨m, h, a, b⟩⟩
theorem eo5 {i m j : Nat} (h : w m = 30) (h1 : Eo w 5 i m) (h2 : Eo w 4 (m + 1) j) : Eo w 5 i j := by
  obtain ⟨n, a, b⟩ := h1.two h2
  exact ⟨n + 1, by rw [Ex]; exact Or.inr ⟨m, h, a, b⟩⟩
theorem eo6 {i m q j : Nat} (h : w m = 32) (hq : w q = 33) (h1 : Eo w 5 i m) (h2 : Eo w 6 (m + 1) q) (h3 : Eo w 6 (q + 1) j) : Eo w 6 i j := by
  obtain ⟨n, a, b⟩ := h1.two h2
  obtain ⟨n', c⟩ := h3
  exact ⟨n + n' + 1, by rw [Ex]; exact Or.inr ⟨m, q, h, hq, a.le (by omega), b.le (by omega), c.le (by omega)⟩⟩
theorem eo7 {i m j : Nat} (h : w m = 35) (h1 : Eo w 7 i m) (h2 : Eo w 6 (m + 1) j) : Eo w 7 i j := by
  obtain ⟨n, a, b⟩ := h1.two h2
  exact ⟨n + 1, by rw [Ex]; exact Or.inr ⟨m, h, a, b⟩⟩
end EX
end
section
/-! The reference: what readText accepts is made of expressions. -/
section DE
variable {w : Nat → Int} {n : Nat}
theorem ac_t {f k : Nat} {x : Int} {r : List Int} (hx : x < 50) (h : Ac w n f (x :: r) k) : ∃ g, g < f ∧ w k = x ∧ Ac w n g r (k + 1) := by
  cases f with
  | zero => exact absurd h.1 (by simp)
  | succ f =>
    have h' : (if x = 75 then Ac w n f r k else if x < 50 then w k = x ∧ Ac w n f r (k + 1) else ∃ ys t, ex x (w k) = some (ys, t) ∧ Ac w n f (ys ++ r) (k + t)) := h
    rw [if_neg (by omega), if_pos hx] at h'
    exact ⟨f, by omega, h'.1, h'.2⟩
theorem ac_l {f k : Nat} {r : List Int} (h : Ac w n f (75 :: r) k) : ∃ g, g < f ∧ Ac w n g r k := by
  cases f with
  | zero => exact absurd h.1 (by simp)
  | succ f =>
    have h' : (if (75 : Int) = 75 then Ac w n f r k else if (75 : Int) < 50 then w k = 75 ∧ Ac w n f r (k + 1) else ∃ ys t, ex 75 (w k) = some (ys, t) ∧ Ac w n f (ys ++ r) (k + t)) := h
    rw [if_pos rfl] at h'
    exact ⟨f, by omega, h'⟩
theorem ac_n {f k : Nat} {x : Int} {r : List Int} (hx : 50 ≤ x) (h75 : x ≠ 75) (h : Ac w n f (x :: r) k) : ∃ g ys t, g < f ∧ ex x (w k) = some (ys, t) ∧ Ac w n g (ys ++ r) (k + t) := by
  cases f with
  | zero => exact absurd h.1 (by simp)
  | succ f =>
    have h' : (if x = 75 then Ac w n f r k else if x < 50 then w k = x ∧ Ac w n f r (k + 1) else ∃ ys t, ex x (w k) = some (ys, t) ∧ Ac w n f (ys ++ r) (k + t)) := h
    rw [if_neg h75, if_neg (by omega)] at h'
    obtain ⟨ys, t, e, a⟩ := h'
    exact ⟨f, ys, t, by omega, e, a⟩
def prs : List (Int × Nat) := [(73, 0), (71, 1), (69, 2), (67, 3), (65, 4), (63, 5), (61, 6)]
def rsts : List (Int × Nat × Nat) := [(72, 1, 1), (70, 2, 2), (68, 2, 3), (66, 4, 4), (64, 5, 5), (62, 5, 6), (74, 7, 7)]
def Dm (w : Nat → Int) (n f : Nat) : Prop := ∀ x c, (x, c) ∈ prs → ∀ r k, Ac w n f (x :: r) k → ∃ j g, g < f ∧ k < j ∧ Eo w c k j ∧ Ac w n g r j
def Dr (w : Nat → Int) (n f : Nat) : Prop := ∀ x c0 c1, (x, c0, c1) ∈ rsts → ∀ r i k, Eo w c0 i k → Ac w n f (x :: r) k → ∃ j g, g < f ∧ k ≤ j ∧ Eo w c1 i j ∧ Ac w n g r j
/-- first a part, then its rest -/
theorem d_pair {f g k : Nat} {x y : Int} {c0 c1 : Nat} {r : List Int} (ih : ∀ f', f' < f → Dm w n f' ∧ Dr w n f') (hg : g < f) (hx : (x, c0) ∈ prs) (hy : (y, c0, c1) ∈ rsts) (h : Ac w n g (x :: y :: r) k) : ∃ j g', g' < f ∧ k < j ∧ Eo w c1 k j ∧ Ac w n g' r j := by
  obtain ⟨j, g1, a1, a2, a3, a4⟩ := (ih g hg).1 x c0 hx _ k h
  obtain ⟨j', g2, b1, b2, b3, b4⟩ := (ih g1 (by omega)).2 y c0 c1 hy r k j a3 a4
  exact ⟨j', g2, by omega, by omega, b3, b4⟩
/-- an operator, a part, and the rest again -/
theorem d_again {f g i k : Nat} {x y : Int} {c0 c1 c2 : Nat} {r : List Int} (ih : ∀ f', f' < f → Dm w n f' ∧ Dr w n f') (hg : g < f) (hx : (x, c0) ∈ prs) (hy : (y, c1, c2) ∈ rsts) (hop : ∀ j, Eo w c0 (k + 1) j → Eo w c1 i j) (h : Ac w n g (x :: y :: r) (k + 1)) : ∃ j g', g' < f ∧ k ≤ j ∧ Eo w c2 i j ∧ Ac w n g' r j := by
  obtain ⟨j, g1, a1, a2, a3, a4⟩ := (ih g hg).1 x c0 hx _ (k + 1) h
  obtain ⟨j', g2, b1, b2, b3, b4⟩ := (ih g1 (by omega)).2 y c1 c2 hy r i j (hop j a3) a4
  exact ⟨j', g2, by omega, by omega, b3, b4⟩
theorem d_all : ∀ f, Dm w n f ∧ Dr w n f := by
  intro f
  induction f using Nat.strongRecOn with
  | ind f ih =>
    refine ⟨fun x c hx r k h => ?_, fun x c0 c1 hx r i k he h => ?_⟩
    · have hx' : (x = 73 ∧ c = 0) ∨ (x = 71 ∧ c = 1) ∨ (x = 69 ∧ c = 2) ∨ (x = 67 ∧ c = 3) ∨ (x = 65 ∧ c = 4) ∨ (x = 63 ∧ c = 5) ∨ (x = 61 ∧ c = 6) := by
        unfold prs at hx
        simpa using hx
      rcases hx' with ⟨q1, q2⟩ | ⟨q1, q2⟩ | ⟨q1, q2⟩ | ⟨q1, q2⟩ | ⟨q1, q2⟩ | ⟨q1, q2⟩ | ⟨q1, q2⟩ <;> subst q1 q2
      · obtain ⟨g, ys, t, hg, e, a⟩ := ac_n (by omega) (by omega) h
        rw [ex_73] at e
        unfold ex73 at e
        by_cases c1 : w k = 1 ∨ w k = 2 ∨ w k = 12 ∨ w k = 13
        · rw [if_pos c1] at e
          cases e
          exact ⟨k + 1, g, hg, by omega, eo0_leaf c1, a⟩
        rw [if_neg c1] at e
        by_cases c2 : w k = 14 ∨ w k = 15
        · rw [if_pos c2] at e
          cases e
          have a' : Ac w n g (76 :: 61 :: 74 :: 37 :: 75 :: r) (k + 1) := a
          obtain ⟨g1, ys1, t1, b1, e1, a1⟩ := ac_n (by omega) (by omega) a'
          rw [ex_76] at e1
          unfold ex76 at e1
          by_cases c3 : w (k + 1) = 36
          · rw [if_pos c3] at e1
            cases e1
            have a1' : Ac w n g1 (61 :: 74 :: 37 :: 75 :: r) (k + 2) := a1
            obtain ⟨j, g2, d1, d2, d3, d4⟩ := (ih g1 (by omega)).1 61 6 (by decide) _ _ a1'
            obtain ⟨j', g3, d5, d6, d7, d8⟩ := (ih g2 (by omega)).2 74 7 7 (by decide) _ (k + 2) j (d3.one (by omega)) d4
            obtain ⟨g4, d9, d10, d11⟩ := ac_t (by omega) d8
            obtain ⟨g5, d12, d13⟩ := ac_l d11
            exact ⟨j' + 1, g5, by omega, by omega, eo0_lst c2 c3 d10 d7, d13⟩
          · rw [if_neg c3] at e1
            cases e1
        rw [if_neg c2] at e
        by_cases c3 : w k = 25
        · rw [if_pos c3] at e
          cases e
          have a' : Ac w n g (73 :: 75 :: r) (k + 1) := a
          obtain ⟨j, g2, d1, d2, d3, d4⟩ := (ih g hg).1 73 0 (by decide) _ _ a'
          obtain ⟨g5, d12, d13⟩ := ac_l d4
          exact ⟨j, g5, by omega, by omega, eo0_neg c3 d3, d13⟩
        rw [if_neg c3] at e
        by_cases c4 : w k = 36
        · rw [if_pos c4] at e
          cases e
          have a' : Ac w n g (61 :: 37 :: 75 :: r) (k + 1) := a
          obtain ⟨j, g2, d1, d2, d3, d4⟩ := (ih g hg).1 61 6 (by decide) _ _ a'
          obtain ⟨g4, d9, d10, d11⟩ := ac_t (by omega) d4
          obtain ⟨g5, d12, d13⟩ := ac_l d11
          exact ⟨j + 1, g5, by omega, by omega, eo0_par c4 d10 d3, d13⟩
        rw [if_neg c4] at e
        cases e
      · obtain ⟨g, ys, t, hg, e, a⟩ := ac_n (by omega) (by omega) h
        rw [ex_71] at e
        unfold ex71 at e
        cases e
        have a' : Ac w n g (73 :: 72 :: r) k := a
        obtain ⟨j, g2, d1, d2, d3, d4⟩ := (ih g hg).1 73 0 (by decide) _ _ a'
        obtain ⟨j', g3, d5, d6, d7, d8⟩ := (ih g2 (by omega)).2 72 1 1 (by decide) _ k j (d3.one (by omega)) d4
        exact ⟨j', g3, by omega, by omega, d7, d8⟩
      · obtain ⟨g, ys, t, hg, e, a⟩ := ac_n (by omega) (by omega) h
        rw [ex_69] at e
        unfold ex69 at e
        cases e
        have a' : Ac w n g (71 :: 70 :: r) k := a
        obtain ⟨j, g2, d1, d2, d3, d4⟩ := (ih g hg).1 71 1 (by decide) _ _ a'
        obtain ⟨j', g3, d5, d6, d7, d8⟩ := (ih g2 (by omega)).2 70 2 2 (by decide) _ k j (d3.one (by omega)) d4
        exact ⟨j', g3, by omega, by omega, d7, d8⟩
      · obtain ⟨g, ys, t, hg, e, a⟩ := ac_n (by omega) (by omega) h
        rw [ex_67] at e
        unfold ex67 at e
        by_cases c1 : w k = 31
        · rw [if_pos c1] at e
          cases e
          have a' : Ac w n g (67 :: 75 :: r) (k + 1) := a
          obtain ⟨j, g2, d1, d2, d3, d4⟩ := (ih g hg).1 67 3 (by decide) _ _ a'
          obtain ⟨g5, d12, d13⟩ := ac_l d4
          exact ⟨j, g5, by omega, by omega, eo3n c1 d3, d13⟩
        · rw [if_neg c1] at e
          cases e
          have a' : Ac w n g (69 :: 68 :: r) k := a
          exact d_pair ih hg (c0 := 2) (by decide) (by decide) a'
      · obtain ⟨g, ys, t, hg, e, a⟩ := ac_n (by omega) (by omega) h
        rw [ex_65] at e
        unfold ex65 at e
        cases e
        have a' : Ac w n g (67 :: 66 :: r) k := a
        obtain ⟨j, g2, d1, d2, d3, d4⟩ := (ih g hg).1 67 3 (by decide) _ _ a'
        obtain ⟨j', g3, d5, d6, d7, d8⟩ := (ih g2 (by omega)).2 66 4 4 (by decide) _ k j (d3.one (by omega)) d4
        exact ⟨j', g3, by omega, by omega, d7, d8⟩
      · obtain ⟨g, ys, t, hg, e, a⟩ := ac_n (by omega) (by omega) h
        rw [ex_63] at e
        unfold ex63 at e
        cases e
        have a' : Ac w n g (65 :: 64 :: r) k := a
        obtain ⟨j, g2, d1, d2, d3, d4⟩ := (ih g hg).1 65 4 (by decide) _ _ a'
        obtain ⟨j', g3, d5, d6, d7, d8⟩ := (ih g2 (by omega)).2 64 5 5 (by decide) _ k j (d3.one (by omega)) d4
        exact ⟨j', g3, by omega, by omega, d7, d8⟩
      · obtain ⟨g, ys, t, hg, e, a⟩ := ac_n (by omega) (by omega) h
        rw [ex_61] at e
        unfold ex61 at e
        cases e
        have a' : Ac w n g (63 :: 62 :: r) k := a
        exact d_pair ih hg (c0 := 5) (by decide) (by decide) a'
    · have hx' : (x = 72 ∧ c0 = 1 ∧ c1 = 1) ∨ (x = 70 ∧ c0 = 2 ∧ c1 = 2) ∨ (x = 68 ∧ c0 = 2 ∧ c1 = 3) ∨ (x = 66 ∧ c0 = 4 ∧ c1 = 4) ∨ (x = 64 ∧ c0 = 5 ∧ c1 = 5) ∨ (x = 62 ∧ c0 = 5 ∧ c1 = 6) ∨ (x = 74 ∧ c0 = 7 ∧ c1 = 7) := by
        unfold rsts at hx
        simpa using hx
      rcases hx' with ⟨q1, q2, q3⟩ | ⟨q1, q2, q3⟩ | ⟨q1, q2, q3⟩ | ⟨q1, q2, q3⟩ | ⟨q1, q2, q3⟩ | ⟨q1, q2, q3⟩ | ⟨q1, q2, q3⟩ <;> subst q1 q2 q3
      · obtain ⟨g, ys, t, hg, e, a⟩ := ac_n (by omega) (by omega) h
        rw [ex_72] at e
        unfold ex72 at e
        by_cases c1 : w k = 26 ∨ w k = 27 ∨ w k = 28
        · rw [if_pos c1] at e
          cases e
          exact d_again ih hg (x := 73) (y := 72) (c0 := 0) (c1 := 1) (by decide) (by decide) (fun j z => eo1 c1 he z) a
        · rw [if_neg c1] at e
          cases e
          exact ⟨k, g, hg, by omega, he, a⟩
      · obtain ⟨g, ys, t, hg, e, a⟩ := ac_n (by omega) (by omega) h
        rw [ex_70] at e
        unfold ex70 at e
        by_cases c1 : w k = 24 ∨ w k = 25
        · rw [if_pos c1] at e
          cases e
          exact d_again ih hg (x := 71) (y := 70) (c0 := 1) (c1 := 2) (by decide) (by decide) (fun j z => eo2 c1 he z) a
        · rw [if_neg c1] at e
          cases e
          exact ⟨k, g, hg, by omega, he, a⟩
      · obtain ⟨g, ys, t, hg, e, a⟩ := ac_n (by omega) (by omega) h
        rw [ex_68] at e
        unfold ex68 at e
        by_cases c1 : 18 ≤ w k ∧ w k ≤ 23
        · rw [if_pos c1] at e
          cases e
          have a' : Ac w n g (69 :: r) (k + 1) := a
          obtain ⟨j, g2, d1, d2, d3, d4⟩ := (ih g hg).1 69 2 (by decide) _ _ a'
          exact ⟨j, g2, by omega, by omega, eo3 c1 he d3, d4⟩
        · rw [if_neg c1] at e
          cases e
          exact ⟨k, g, hg, by omega, he.one (by omega), a⟩
      · obtain ⟨g, ys, t, hg, e, a⟩ := ac_n (by omega) (by omega) h
        rw [ex_66] at e
        unfold ex66 at e
        by_cases c1 : w k = 29
        · rw [if_pos c1] at e
          cases e
          exact d_again ih hg (x := 67) (y := 66) (c0 := 3) (c1 := 4) (by decide) (by decide) (fun j z => eo4 c1 he z) a
        · rw [if_neg c1] at e
          cases e
          exact ⟨k, g, hg, by omega, he, a⟩
      · obtain ⟨g, ys, t, hg, e, a⟩ := ac_n (by omega) (by omega) h
        rw [ex_64] at e
        unfold ex64 at e
        by_cases c1 : w k = 30
        · rw [if_pos c1] at e
          cases e
          exact d_again ih hg (x := 65) (y := 64) (c0 := 4) (c1 := 5) (by decide) (by decide) (fun j z => eo5 c1 he z) a
        · rw [if_neg c1] at e
          cases e
          exact ⟨k, g, hg, by omega, he, a⟩
      · obtain ⟨g, ys, t, hg, e, a⟩ := ac_n (by omega) (by omega) h
        rw [ex_62] at e
        unfold ex62 at e
        by_cases c1 : w k = 32
        · rw [if_pos c1] at e
          cases e
          have a' : Ac w n g (61 :: 33 :: 61 :: 75 :: r) (k + 1) := a
          obtain ⟨j, g2, d1, d2, d3, d4⟩ := (ih g hg).1 61 6 (by decide) _ _ a'
          obtain ⟨g3, d5, d6, d7⟩ := ac_t (by omega) d4
          obtain ⟨j', g4, d8, d9, d10, d11⟩ := (ih g3 (by omega)).1 61 6 (by decide) _ _ d7
          obtain ⟨g5, d12, d13⟩ := ac_l d11
          exact ⟨j', g5, by omega, by omega, eo6 c1 d6 he d3 d10, d13⟩
        · rw [if_neg c1] at e
          cases e
          exact ⟨k, g, hg, by omega, he.one (by omega), a⟩
      · obtain ⟨g, ys, t, hg, e, a⟩ := ac_n (by omega) (by omega) h
        rw [ex_74] at e
        unfold ex74 at e
        by_cases c1 : w k = 35
        · rw [if_pos c1] at e
          cases e
          exact d_again ih hg (x := 61) (y := 74) (c0 := 6) (c1 := 7) (by decide) (by decide) (fun j z => eo7 c1 he z) a
        · rw [if_neg c1] at e
          cases e
          exact ⟨k, g, hg, by omega, he, a⟩
/-- a rule is wanted: an expression stands there -/
theorem ac_rule {f k : Nat} {r : List Int} (h : Ac w n f (61 :: r) k) : ∃ j g, g < f ∧ k < j ∧ Eo w 6 k j ∧ Ac w n g r j := (d_all f).1 61 6 (by decide) r k h
theorem ac_or {f k : Nat} {r : List Int} (h : Ac w n f (63 :: r) k) : ∃ j g, g < f ∧ k < j ∧ Eo w 5 k j ∧ Ac w n g r j := (d_all f).1 63 5 (by decide) r k h
end DE
end
section
/-! The reference: how deep a word stands. -/
section SC
variable (w : Nat → Int)
/-- how many parentheses are open after m words from i on -/
def dp (i : Nat) : Nat → Int
  | 0 => 0
  | m + 1 => dp i m + (if w (i + m) = 36 then 1 else if w (i + m) = 37 then -1 else 0)
/-- how many questions are open there, outside parentheses -/
def aq (i : Nat) : Nat → Int
  | 0 => 0
  | m + 1 => if 0 < dp w i m then aq i m else aq i m + (if w (i + m) = 32 then 1 else if w (i + m) = 33 then -1 else 0)
/-- an operand ends here -/
def opd (x : Int) : Prop := x = 1 ∨ x = 2 ∨ x = 12 ∨ x = 13 ∨ x = 37
/-- how loosely the word at k binds -/
def lz (i k : Nat) : Nat := if w k = 32 then 6 else if w k = 30 then 5 else if w k = 29 then 4 else if 18 ≤ w k ∧ w k ≤ 23 then 3 else if w k = 24 ∨ w k = 25 then (if i < k ∧ (w (k - 1) = 1 ∨ w (k - 1) = 2 ∨ w (k - 1) = 12 ∨ w (k - 1) = 13 ∨ w (k - 1) = 37) then 2 else 0) else if 26 ≤ w k ∧ w k ≤ 28 then 1 else 0
/-- words that rules are made of -/
def rwd (x : Int) : Prop := x = 1 ∨ x = 2 ∨ (12 ≤ x ∧ x ≤ 15) ∨ (18 ≤ x ∧ x ≤ 33) ∨ (35 ≤ x ∧ x ≤ 37)
/-- a rule's first word -/
def fwd (x : Int) : Prop := x = 1 ∨ x = 2 ∨ (12 ≤ x ∧ x ≤ 15) ∨ x = 25 ∨ x = 31 ∨ x = 36
end SC
section SC
variable {w : Nat → Int}
theorem dp_s {i m : Nat} : dp w i (m + 1) = dp w i m + (if w (i + m) = 36 then 1 else if w (i + m) = 37 then -1 else 0) := rfl
theorem aq_s {i m : Nat} : aq w i (m + 1) = if 0 < dp w i m then aq w i m else aq w i m + (if w (i + m) = 32 then 1 else if w (i + m) = 33 then -1 else 0) := rfl
theorem dp_app {i : Nat} (a : Nat) : ∀ b, dp w i (a + b) = dp w i a + dp w (i + a) b
  | 0 => by show dp w i a = dp w i a + 0; omega
  | b + 1 => by
    have e : a + (b + 1) = (a + b) + 1 := rfl
    rw [e, dp_s, dp_s, dp_app a b, Nat.add_assoc i a b]
    omega
theorem aq_app {i a : Nat} (h : dp w i a = 0) : ∀ b, aq w i (a + b) = aq w i a + aq w (i + a) b
  | 0 => by show aq w i a = aq w i a + 0; omega
  | b + 1 => by
    have e : a + (b + 1) = (a + b) + 1 := rfl
    rw [e, aq_s, aq_s, aq_app h b, dp_app, h, show (0 : Int) + dp w (i + a) b = dp w (i + a) b by first | rfl | omega, Nat.add_assoc i a b]
    split <;> omega
/-- balanced: parentheses and questions close, none before it was opened; no colon of another question -/
def Bl (w : Nat → Int) (i l : Nat) : Prop := dp w i l = 0 ∧ aq w i l = 0 ∧ (∀ m, m ≤ l → 0 ≤ dp w i m ∧ 0 ≤ aq w i m) ∧ (∀ m, m < l → rwd (w (i + m)) ∧ (dp w i m = 0 → aq w i m = 0 → w (i + m) ≠ 33))
/-- no question outside parentheses -/
def Nq (w : Nat → Int) (i l : Nat) : Prop := ∀ m, m < l → dp w i m = 0 → w (i + m) ≠ 32
/-- two balanced stretches with a plain word between them -/
theorem Bl.join {i a b : Nat} (h1 : Bl w i a) (h2 : Bl w (i + a + 1) b) (hp : rwd (w (i + a))) (h36 : w (i + a) ≠ 36) (h37 : w (i + a) ≠ 37) (h32 : w (i + a) ≠ 32) (h33 : w (i + a) ≠ 33) : Bl w i (a + 1 + b) := by
  have d1 : dp w i (a + 1) = 0 := by show dp w i a + _ = 0; rw [if_neg h36, if_neg h37, h1.1]; omega
  have a1 : aq w i (a + 1) = 0 := by
    show (if 0 < dp w i a then aq w i a else aq w i a + _) = 0
    rw [h1.1, if_neg (by omega), if_neg h32, if_neg h33, h1.2.1]; omega
  have e : i + (a + 1) = i + a + 1 := by omega
  refine ⟨by rw [dp_app, d1, e, h2.1]; omega, by rw [aq_app d1, a1, e, h2.2.1]; omega, fun m hm => ?_, fun m hm => ?_⟩
  · by_cases z : m ≤ a
    · exact h1.2.2.1 m z
    · have k := h2.2.2.1 (m - (a + 1)) (by omega)
      rw [show m = (a + 1) + (m - (a + 1)) by first | rfl | omega, dp_app, aq_app d1, d1, a1, e]
      omega
  · by_cases z : m < a
    · exact h1.2.2.2 m z
    · by_cases y : m = a
      · rw [y]; exact ⟨hp, fun _ _ => h33⟩
      · have k := h2.2.2.2 (m - (a + 1)) (by omega)
        rw [show i + a + 1 + (m - (a + 1)) = i + m by first | rfl | omega] at k
        refine ⟨k.1, fun q1 q2 => k.2 ?_ ?_⟩
        · rw [show m = (a + 1) + (m - (a + 1)) by first | rfl | omega, dp_app, d1, e] at q1
          omega
        · rw [show m = (a + 1) + (m - (a + 1)) by first | rfl | omega, aq_app d1, a1, e] at q2
          omega
theorem Nq.join {i a b : Nat} (b1 : Bl w i a) (h1 : Nq w i a) (h2 : Nq w (i + a + 1) b) (h36 : w (i + a) ≠ 36) (h37 : w (i + a) ≠ 37) (h32 : w (i + a) ≠ 32) : Nq w i (a + 1 + b) := by
  have d1 : dp w i (a + 1) = 0 := by show dp w i a + _ = 0; rw [if_neg h36, if_neg h37, b1.1]; omega
  have e : i + (a + 1) = i + a + 1 := by omega
  intro m hm q
  by_cases z : m < a
  · exact h1 m z q
  · by_cases y : m = a
    · rw [y]; exact h32
    · have k := h2 (m - (a + 1)) (by omega)
      rw [show i + a + 1 + (m - (a + 1)) = i + m by first | rfl | omega] at k
      refine k ?_
      rw [show m = (a + 1) + (m - (a + 1)) by first | rfl | omega, dp_app, d1, e] at q
      omega
/-- one plain word, then a balanced stretch -/
theorem Bl.cons {i b : Nat} (h2 : Bl w (i + 1) b) (hp : rwd (w i)) (h36 : w i ≠ 36) (h37 : w i ≠ 37) (h32 : w i ≠ 32) (h33 : w i ≠ 33) : Bl w i (1 + b) := by
  have h0 : Bl w i 0 := ⟨rfl, rfl, fun m hm => by have : m = 0 := by omega
                                                  subst this; exact ⟨Int.le_refl _, Int.le_refl _⟩, fun m hm => by omega⟩
  have := h0.join (b := b) (by rw [show i + 0 + 1 = i + 1 by first | rfl | omega]; exact h2) hp h36 h37 h32 h33
  rw [show 0 + 1 + b = 1 + b by first | rfl | omega] at this
  exact this
theorem Nq.cons {i b : Nat} (h2 : Nq w (i + 1) b) (h36 : w i ≠ 36) (h37 : w i ≠ 37) (h32 : w i ≠ 32) : Nq w i (1 + b) := by
  have h0 : Bl w i 0 := ⟨rfl, rfl, fun m hm => by have : m = 0 := by omega
                                                  subst this; exact ⟨Int.le_refl _, Int.le_refl _⟩, fun m hm => by omega⟩
  have := Nq.join (a := 0) (b := b) h0 (fun m hm => by omega) (by rw [show i + 0 + 1 = i + 1 by first | rfl | omega]; exact h2) h36 h37 h32
  rw [show 0 + 1 + b = 1 + b by first | rfl | omega] at this
  exact this
/-- parentheses around a balanced stretch -/
theorem Bl.paren {i b : Nat} (h2 : Bl w (i + 1) b) (h36 : w i = 36) (h37 : w (i + 1 + b) = 37) : Bl w i (b + 2) ∧ (∀ m, 1 ≤ m → m ≤ b + 1 → 1 ≤ dp w i m) := by
  have d1 : dp w i 1 = 1 := by show dp w i 0 + _ = 1; rw [show i + 0 = i by first | rfl | omega, if_pos h36]; rfl
  have dd : ∀ m, 1 ≤ m → m ≤ b + 1 → dp w i m = 1 + dp w (i + 1) (m - 1) := fun m h1 h3 => by
    rw [show m = 1 + (m - 1) by first | rfl | omega, dp_app, d1, show 1 + (m - 1) - 1 = m - 1 by first | rfl | omega]
  have dpos : ∀ m, 1 ≤ m → m ≤ b + 1 → 1 ≤ dp w i m := fun m h1 h3 => by
    have := dd m h1 h3
    have := h2.2.2.1 (m - 1) (by omega)
    omega
  have aqz : ∀ m, m ≤ b + 1 → aq w i m = 0 := by
    intro m
    induction m with
    | zero => intro _; rfl
    | succ m ih =>
      intro hm
      have e := ih (by omega)
      show (if 0 < dp w i m then aq w i m else aq w i m + _) = 0
      by_cases z : m = 0
      · subst z
        rw [if_neg (by show ¬ (0 : Int) < 0; omega), show i + 0 = i by first | rfl | omega, if_neg (by omega), if_neg (by omega), e]; omega
      · rw [if_pos (by have := dpos m (by omega) (by omega); omega)]; exact e
  have dl : dp w i (b + 2) = 0 := by
    show dp w i (b + 1) + _ = 0
    rw [show i + (b + 1) = i + 1 + b by first | rfl | omega, if_neg (by omega), if_pos h37, dd (b + 1) (by omega) (by omega), show b + 1 - 1 = b by first | rfl | omega, h2.1]
    omega
  have al : aq w i (b + 2) = 0 := by
    show (if 0 < dp w i (b + 1) then aq w i (b + 1) else aq w i (b + 1) + _) = 0
    rw [if_pos (by have := dpos (b + 1) (by omega) (by omega); omega)]
    exact aqz _ (by omega)
  refine ⟨⟨dl, al, fun m hm => ?_, fun m hm => ?_⟩, dpos⟩
  · by_cases z : m = b + 2
    · rw [z, dl, al]; omega
    · rw [aqz m (by omega)]
      by_cases y : m = 0
      · subst y; exact ⟨Int.le_refl _, Int.le_refl _⟩
      · have := dpos m (by omega) (by omega)
        omega
  · by_cases y : m = 0
    · subst y
      rw [show i + 0 = i by first | rfl | omega, h36]
      exact ⟨by unfold rwd; omega, fun _ _ => by omega⟩
    · by_cases z : m = b + 1
      · rw [z, show i + (b + 1) = i + 1 + b by first | rfl | omega, h37]
        exact ⟨by unfold rwd; omega, fun _ _ => by omega⟩
      · have k := (h2.2.2.2 (m - 1) (by omega)).1
        rw [show i + 1 + (m - 1) = i + m by first | rfl | omega] at k
        exact ⟨k, fun q _ => by have := dpos m (by omega) (by omega); omega⟩
end SC
end
section
/-! The reference: the shape of an expression's words. -/
section SH
variable {w : Nat → Int}
theorem Bl.ask {i a b c : Nat} (h1 : Bl w i a) (h2 : Bl w (i + a + 1) b) (h3 : Bl w (i + a + 1 + b + 1) c) (hp : w (i + a) = 32) (hq : w (i + a + 1 + b) = 33) : Bl w i (a + 1 + b + 1 + c) := by
  have d1 : dp w i (a + 1) = 0 := by rw [dp_s, if_neg (by omega), if_neg (by omega), h1.1]; omega
  have a1 : aq w i (a + 1) = 1 := by rw [aq_s, h1.1, if_neg (by omega), if_pos hp, h1.2.1]; omega
  have e : i + (a + 1) = i + a + 1 := by omega
  have d2 : dp w i (a + 1 + b) = 0 := by rw [dp_app, d1, e, h2.1]; omega
  have a2 : aq w i (a + 1 + b) = 1 := by rw [aq_app d1, a1, e, h2.2.1]; omega
  have e2 : i + (a + 1 + b) = i + a + 1 + b := by omega
  have d3 : dp w i (a + 1 + b + 1) = 0 := by rw [dp_s, e2, if_neg (by omega), if_neg (by omega), d2]; omega
  have a3 : aq w i (a + 1 + b + 1) = 0 := by rw [aq_s, d2, if_neg (by omega), e2, if_neg (by omega), if_pos hq, a2]; omega
  have e3 : i + (a + 1 + b + 1) = i + a + 1 + b + 1 := by omega
  refine ⟨by rw [dp_app, d3, e3, h3.1]; omega, by rw [aq_app d3, a3, e3, h3.2.1]; omega, fun m hm => ?_, fun m hm => ?_⟩
  · by_cases z : m ≤ a
    · exact h1.2.2.1 m z
    · by_cases y : m ≤ a + 1 + b
      · have k := h2.2.2.1 (m - (a + 1)) (by omega)
        rw [show m = (a + 1) + (m - (a + 1)) by first | rfl | omega, dp_app, aq_app d1, d1, a1, e]
        omega
      · have k := h3.2.2.1 (m - (a + 1 + b + 1)) (by omega)
        rw [show m = (a + 1 + b + 1) + (m - (a + 1 + b + 1)) by first | rfl | omega, dp_app, aq_app d3, d3, a3, e3]
        omega
  · by_cases z : m < a
    · exact h1.2.2.2 m z
    · by_cases y : m = a
      · rw [y, hp]; exact ⟨by unfold rwd; omega, fun _ _ => by omega⟩
      · by_cases x : m < a + 1 + b
        · have k := h2.2.2.2 (m - (a + 1)) (by omega)
          have p := h2.2.2.1 (m - (a + 1)) (by omega)
          rw [show i + a + 1 + (m - (a + 1)) = i + m by first | rfl | omega] at k
          refine ⟨k.1, fun q1 q2 => ?_⟩
          rw [show m = (a + 1) + (m - (a + 1)) by first | rfl | omega, aq_app d1, a1, e] at q2
          omega
        · by_cases v : m = a + 1 + b
          · rw [v, e2, hq]
            exact ⟨by unfold rwd; omega, fun _ q2 => by omega⟩
          · have k := h3.2.2.2 (m - (a + 1 + b + 1)) (by omega)
            rw [show i + a + 1 + b + 1 + (m - (a + 1 + b + 1)) = i + m by first | rfl | omega] at k
            refine ⟨k.1, fun q1 q2 => k.2 ?_ ?_⟩
            · rw [show m = (a + 1 + b + 1) + (m - (a + 1 + b + 1)) by first | rfl | omega, dp_app, d3, e3] at q1
              omega
            · rw [show m = (a + 1 + b + 1) + (m - (a + 1 + b + 1)) by first | rfl | omega, aq_app d3, a3, e3] at q2
              omega
theorem lz_le {i k : Nat} : lz w i k ≤ 6 := by
  unfold lz
  by_cases c1 : w k = 32
  · rw [if_pos c1]; omega
  rw [if_neg c1]
  by_cases c2 : w k = 30
  · rw [if_pos c2]; omega
  rw [if_neg c2]
  by_cases c3 : w k = 29
  · rw [if_pos c3]; omega
  rw [if_neg c3]
  by_cases c4 : 18 ≤ w k ∧ w k ≤ 23
  · rw [if_pos c4]; omega
  rw [if_neg c4]
  by_cases c5 : w k = 24 ∨ w k = 25
  · rw [if_pos c5]; split <;> omega
  rw [if_neg c5]
  split <;> omega
theorem lz_c {i i' k : Nat} (h : i < k) (h' : i' < k) : lz w i k = lz w i' k := by
  unfold lz
  have e : (i < k ∧ (w (k - 1) = 1 ∨ w (k - 1) = 2 ∨ w (k - 1) = 12 ∨ w (k - 1) = 13 ∨ w (k - 1) = 37)) ↔ (i' < k ∧ (w (k - 1) = 1 ∨ w (k - 1) = 2 ∨ w (k - 1) = 12 ∨ w (k - 1) = 13 ∨ w (k - 1) = 37)) := ⟨fun q => ⟨h', q.2⟩, fun q => ⟨h, q.2⟩⟩
  simp only [e]
theorem lz_f {i k : Nat} (h : fwd (w k)) (h2 : i < k → ¬ opd (w (k - 1))) : lz w i k = 0 := by
  unfold fwd at h
  unfold lz
  rw [if_neg (by omega), if_neg (by omega), if_neg (by omega), if_neg (by omega)]
  by_cases c5 : w k = 24 ∨ w k = 25
  · rw [if_pos c5, if_neg (fun q => h2 q.1 q.2)]
  · rw [if_neg c5, if_neg (by omega)]
def Lb (w : Nat → Int) (c i l : Nat) : Prop := ∀ m, m < l → dp w i m = 0 → lz w i (i + m) ≤ c
theorem Lb.join {i a b c c1 c2 : Nat} (b1 : Bl w i a) (h1 : Lb w c1 i a) (h2 : Lb w c2 (i + a + 1) b) (hc1 : c1 ≤ c) (hc2 : c2 ≤ c) (hb : 0 < b) (h36 : w (i + a) ≠ 36) (h37 : w (i + a) ≠ 37) (hop : lz w i (i + a) ≤ c) (hno : ¬ opd (w (i + a))) (hf : fwd (w (i + a + 1))) : Lb w c i (a + 1 + b) := by
  have d1 : dp w i (a + 1) = 0 := by rw [dp_s, if_neg h36, if_neg h37, b1.1]; omega
  have e : i + (a + 1) = i + a + 1 := by omega
  intro m hm q
  by_cases z : m < a
  · have := h1 m z q; omega
  · by_cases y : m = a
    · rw [y]; exact hop
    · by_cases x : m = a + 1
      · rw [x, e, lz_f hf (fun _ => by rw [show i + a + 1 - 1 = i + a by first | rfl | omega]; exact hno)]; omega
      · rw [show m = (a + 1) + (m - (a + 1)) by first | rfl | omega, dp_app, d1, e] at q
        have k := h2 (m - (a + 1)) (by omega) (by omega)
        rw [show i + a + 1 + (m - (a + 1)) = i + m by first | rfl | omega] at k
        rw [lz_c (i' := i + a + 1) (by omega) (by omega)]
        omega
theorem Lb.cons {i b c : Nat} (h2 : Lb w c (i + 1) b) (hb : 0 < b) (h36 : w i ≠ 36) (h37 : w i ≠ 37) (hf0 : fwd (w i)) (hno : ¬ opd (w i)) (hf : fwd (w (i + 1))) : Lb w c i (1 + b) := by
  have h0 : Bl w i 0 := ⟨rfl, rfl, fun m hm => by have : m = 0 := by omega
                                                  subst this; exact ⟨Int.le_refl _, Int.le_refl _⟩, fun m hm => by omega⟩
  have := Lb.join (i := i) (a := 0) (b := b) (c := c) (c1 := 0) (c2 := c) h0 (fun m hm => by omega) h2 (by omega) (by omega) hb h36 h37 (by rw [show i + 0 = i by first | rfl | omega, lz_f hf0 (fun q => by omega)]; omega) hno hf
  rw [show 0 + 1 + b = 1 + b by first | rfl | omega] at this
  exact this
def Pr (w : Nat → Int) (c i j : Nat) : Prop := i < j ∧ fwd (w i) ∧ (c ≤ 2 → w i ≠ 31) ∧ opd (w (j - 1)) ∧ Bl w i (j - i) ∧ (c ≤ 5 → Nq w i (j - i)) ∧ Lb w c i (j - i)
/-- two parts joined by an operator -/
theorem Pr.join {c c1 c2 i m j : Nat} (h1 : Pr w c1 i m) (h2 : Pr w c2 (m + 1) j) (hc1 : c1 ≤ c) (hc2 : c2 ≤ c) (h2c : c ≤ 2 → c1 ≤ 2) (hq : c ≤ 5 → c1 ≤ 5 ∧ c2 ≤ 5) (hop : (24 ≤ w m ∧ w m ≤ 30) ∨ (18 ≤ w m ∧ w m ≤ 23) ∨ w m = 35) (hl : lz w i m ≤ c) : Pr w c i j := by
  obtain ⟨p1, p2, p3, p4, p5, p6, p7⟩ := h1
  obtain ⟨q1, q2, q3, q4, q5, q6, q7⟩ := h2
  have em : i + (m - i) = m := by omega
  have ej : j - i = (m - i) + 1 + (j - (m + 1)) := by omega
  refine ⟨by omega, p2, fun z => p3 (h2c z), q4, ?_, fun z => ?_, ?_⟩
  · rw [ej]
    exact p5.join (by rw [em]; exact q5) (by rw [em]; unfold rwd; omega) (by rw [em]; omega) (by rw [em]; omega) (by rw [em]; omega) (by rw [em]; omega)
  · rw [ej]
    exact Nq.join p5 (p6 (hq z).1) (by rw [em]; exact q6 (hq z).2) (by rw [em]; omega) (by rw [em]; omega) (by rw [em]; omega)
  · rw [ej]
    exact Lb.join p5 p7 (by rw [em]; exact q7) hc1 hc2 (by omega) (by rw [em]; omega) (by rw [em]; omega) (by rw [em]; exact hl) (by rw [em]; unfold opd; omega) (by rw [em]; exact q2)
theorem Pr.wk {c c' i j : Nat} (h : Pr w c i j) (hc : c ≤ c') (h2 : c' ≤ 2 → c ≤ 2) : Pr w c' i j := by
  obtain ⟨p1, p2, p3, p4, p5, p6, p7⟩ := h
  exact ⟨p1, p2, fun z => p3 (h2 z), p4, p5, fun z => p6 (by omega), fun m hm q => by have := p7 m hm q; omega⟩
theorem lz_26 {i m : Nat} (h : 26 ≤ w m ∧ w m ≤ 28) : lz w i m = 1 := by
  unfold lz
  rw [if_neg (by omega), if_neg (by omega), if_neg (by omega), if_neg (by omega), if_neg (by omega), if_pos h]
theorem lz_24 {i m : Nat} (h : w m = 24 ∨ w m = 25) (hi : i < m) (ho : opd (w (m - 1))) : lz w i m = 2 := by
  unfold lz
  rw [if_neg (by omega), if_neg (by omega), if_neg (by omega), if_neg (by omega), if_pos h, if_pos ⟨hi, ho⟩]
theorem lz_18 {i m : Nat} (h : 18 ≤ w m ∧ w m ≤ 23) : lz w i m = 3 := by
  unfold lz
  rw [if_neg (by omega), if_neg (by omega), if_neg (by omega), if_pos h]
theorem lz_29 {i m : Nat} (h : w m = 29) : lz w i m = 4 := by
  unfold lz
  rw [if_neg (by omega), if_neg (by omega), if_pos h]
theorem lz_30 {i m : Nat} (h : w m = 30) : lz w i m = 5 := by
  unfold lz
  rw [if_neg (by omega), if_pos h]
theorem lz_32 {i m : Nat} (h : w m = 32) : lz w i m = 6 := by
  unfold lz
  rw [if_pos h]
theorem lz_35 {i m : Nat} (h : w m = 35) : lz w i m = 0 := by
  unfold lz
  rw [if_neg (by omega), if_neg (by omega), if_neg (by omega), if_neg (by omega), if_neg (by omega), if_neg (by omega)]
/-- parentheses -/
theorem Pr.par {c i j : Nat} (h : Pr w c (i + 1) j) (h36 : w i = 36) (h37 : w j = 37) : Pr w 0 i (j + 1) := by
  obtain ⟨p1, p2, p3, p4, p5, p6, p7⟩ := h
  have ej : j + 1 - i = (j - (i + 1)) + 2 := by omega
  have em : i + 1 + (j - (i + 1)) = j := by omega
  obtain ⟨b, d⟩ := p5.paren h36 (by rw [em]; exact h37)
  refine ⟨by omega, by unfold fwd; omega, fun _ => by omega, by rw [show j + 1 - 1 = j by first | rfl | omega]; unfold opd; omega, by rw [ej]; exact b, fun _ m hm q => ?_, fun m hm q => ?_⟩
  · by_cases z : m = 0
    · rw [z, show i + 0 = i by first | rfl | omega]; omega
    · have := d m (by omega)
      by_cases y : m ≤ j - (i + 1) + 1
      · have := this y; omega
      · omega
  · by_cases z : m = 0
    · rw [z, show i + 0 = i by first | rfl | omega, lz_f (by unfold fwd; omega) (fun q => by omega)]; omega
    · have := d m (by omega)
      by_cases y : m ≤ j - (i + 1) + 1
      · have := this y; omega
      · omega
theorem Pr.pre {c c' i j : Nat} (h : Pr w c (i + 1) j) (hc : c ≤ c') (hw : w i = 25 ∨ w i = 31) (h3 : w i = 31 → 3 ≤ c') (hq : c' ≤ 5 → c ≤ 5) : Pr w c' i j := by
  obtain ⟨p1, p2, p3, p4, p5, p6, p7⟩ := h
  have ej : j - i = 1 + (j - (i + 1)) := by omega
  refine ⟨by omega, by unfold fwd; omega, fun z q => by have := h3 q; omega, p4, ?_, fun z => ?_, ?_⟩
  · rw [ej]
    exact p5.cons (by unfold rwd; omega) (by omega) (by omega) (by omega) (by omega)
  · rw [ej]
    exact Nq.cons (p6 (hq z)) (by omega) (by omega) (by omega)
  · rw [ej]
    refine fun m hm q => ?_
    have := Lb.cons p7 (by omega) (by omega) (by omega) (by unfold fwd; omega) (by unfold opd; omega) p2 m hm q
    omega
end SH
end
section
/-! The reference: where an expression is split. -/
section LO
variable {w : Nat → Int}
theorem Pr.pre2 {i j : Nat} (h : Pr w 0 (i + 1) j) (hw : w i = 14 ∨ w i = 15) : Pr w 0 i j := by
  obtain ⟨p1, p2, p3, p4, p5, p6, p7⟩ := h
  have ej : j - i = 1 + (j - (i + 1)) := by omega
  refine ⟨by omega, by unfold fwd; omega, fun z => by omega, p4, ?_, fun z => ?_, ?_⟩
  · rw [ej]
    exact p5.cons (by unfold rwd; omega) (by omega) (by omega) (by omega) (by omega)
  · rw [ej]
    exact Nq.cons (p6 (by omega)) (by omega) (by omega) (by omega)
  · rw [ej]
    exact Lb.cons p7 (by omega) (by omega) (by omega) (by unfold fwd; omega) (by unfold opd; omega) p2
theorem Pr.ask {i m q j : Nat} (h1 : Pr w 5 i m) (h2 : Pr w 6 (m + 1) q) (h3 : Pr w 6 (q + 1) j) (hm : w m = 32) (hq : w q = 33) : Pr w 6 i j := by
  obtain ⟨p1, p2, p3, p4, p5, p6, p7⟩ := h1
  obtain ⟨q1, q2, q3, q4, q5, q6, q7⟩ := h2
  obtain ⟨r1, r2, r3, r4, r5, r6, r7⟩ := h3
  have em : i + (m - i) = m := by omega
  have eq : m + 1 + (q - (m + 1)) = q := by omega
  refine ⟨by omega, p2, fun z => by omega, r4, ?_, fun z => by omega, fun m hm q => lz_le⟩
  rw [show j - i = (m - i) + 1 + (q - (m + 1)) + 1 + (j - (q + 1)) by first | rfl | omega]
  exact p5.ask (by rw [em]; exact q5) (by rw [em, eq]; exact r5) (by rw [em]; exact hm) (by rw [em, eq]; exact hq)
theorem ex_pr : ∀ {n c i j : Nat}, Ex w n c i j → Pr w c i j := by
  intro n
  induction n with
  | zero => intro c i j h; exact h.elim
  | succ n ih =>
    intro c i j h
    rw [Ex] at h
    by_cases c0 : c = 0
    · rw [if_pos c0] at h
      subst c0
      rcases h with ⟨h1, h2⟩ | ⟨h1, h2⟩ | ⟨h1, h2, h3⟩ | ⟨h1, h2, h3, h4⟩
      · subst h1
        have hb : Bl w i 1 := by
          have d1 : dp w i 1 = 0 := by rw [dp_s]; show (0 : Int) + _ = 0; rw [show i + 0 = i by first | rfl | omega, if_neg (by omega), if_neg (by omega)]; omega
          have a1 : aq w i 1 = 0 := by rw [aq_s, if_neg (by show ¬ (0 : Int) < 0; omega)]; show (0 : Int) + _ = 0; rw [show i + 0 = i by first | rfl | omega, if_neg (by omega), if_neg (by omega)]; omega
          refine ⟨d1, a1, fun m hm => ?_, fun m hm => ?_⟩
          · by_cases z : m = 0
            · subst z; exact ⟨Int.le_refl _, Int.le_refl _⟩
            · rw [show m = 1 by first | rfl | omega, d1, a1]; omega
          · rw [show m = 0 by first | rfl | omega, show i + 0 = i by first | rfl | omega]
            exact ⟨by unfold rwd; omega, fun _ _ => by omega⟩
        refine ⟨by omega, by unfold fwd; omega, fun _ => by omega, by rw [show i + 1 - 1 = i by first | rfl | omega]; unfold opd; omega, by rw [show i + 1 - i = 1 by first | rfl | omega]; exact hb, fun _ m hm q => ?_, fun m hm q => ?_⟩
        · rw [show m = 0 by first | rfl | omega, show i + 0 = i by first | rfl | omega]; omega
        · rw [show m = 0 by first | rfl | omega, show i + 0 = i by first | rfl | omega, lz_f (by unfold fwd; omega) (fun q => by omega)]; omega
      · exact (ih h2).pre (by omega) (Or.inl h1) (fun q => by omega) (fun _ => by omega)
      · have p := ih h3
        have hj : j = (j - 1) + 1 := by have := p.1; omega
        rw [hj]
        exact p.par h1 h2
      · have p := ih h4
        have hj : j = (j - 1) + 1 := by have := p.1; omega
        have k : Pr w 0 (i + 1) j := by
          rw [hj]
          exact Pr.par (c := 7) (by rw [show i + 1 + 1 = i + 2 by first | rfl | omega]; exact p) h2 h3
        exact k.pre2 h1
    rw [if_neg c0] at h
    by_cases c1 : c = 1
    · rw [if_pos c1] at h
      subst c1
      rcases h with h | ⟨m, h1, h2, h3⟩
      · exact (ih h).wk (by omega) (fun _ => by omega)
      · exact (ih h2).join (ih h3) (by omega) (by omega) (fun _ => by omega) (fun _ => by omega) (by omega) (by rw [lz_26 (by omega)]; omega)
    rw [if_neg c1] at h
    by_cases c2 : c = 2
    · rw [if_pos c2] at h
      subst c2
      rcases h with h | ⟨m, h1, h2, h3⟩
      · exact (ih h).wk (by omega) (fun _ => by omega)
      · exact (ih h2).join (ih h3) (by omega) (by omega) (fun _ => by omega) (fun _ => by omega) (by omega) (by rw [lz_24 h1 (ih h2).1 (ih h2).2.2.2.1]; omega)
    rw [if_neg c2] at h
    by_cases c3 : c = 3
    · rw [if_pos c3] at h
      subst c3
      rcases h with h | ⟨m, h1, h2, h3⟩ | ⟨h1, h2⟩
      · exact (ih h).wk (by omega) (fun _ => by omega)
      · exact (ih h2).join (ih h3) (by omega) (by omega) (fun _ => by omega) (fun _ => by omega) (by omega) (by rw [lz_18 h1]; omega)
      · exact (ih h2).pre (by omega) (Or.inr h1) (fun _ => by omega) (fun _ => by omega)
    rw [if_neg c3] at h
    by_cases c4 : c = 4
    · rw [if_pos c4] at h
      subst c4
      rcases h with h | ⟨m, h1, h2, h3⟩
      · exact (ih h).wk (by omega) (fun _ => by omega)
      · exact (ih h2).join (ih h3) (by omega) (by omega) (fun _ => by omega) (fun _ => by omega) (by omega) (by rw [lz_29 h1]; omega)
    rw [if_neg c4] at h
    by_cases c5 : c = 5
    · rw [if_pos c5] at h
      subst c5
      rcases h with h | ⟨m, h1, h2, h3⟩
      · exact (ih h).wk (by omega) (fun _ => by omega)
      · exact (ih h2).join (ih h3) (by omega) (by omega) (fun _ => by omega) (fun _ => by omega) (by omega) (by rw [lz_30 h1]; omega)
    rw [if_neg c5] at h
    by_cases c6 : c = 6
    · rw [if_pos c6] at h
      subst c6
      rcases h with h | ⟨m, q, h1, h2, h3, h4, h5⟩
      · exact (ih h).wk (by omega) (fun _ => by omega)
      · exact (ih h3).ask (ih h4) (ih h5) h1 h2
    rw [if_neg c6] at h
    by_cases c7 : c = 7
    · rw [if_pos c7] at h
      subst c7
      rcases h with h | ⟨m, h1, h2, h3⟩
      · exact (ih h).wk (by omega) (fun _ => by omega)
      · exact (ih h2).join (ih h3) (by omega) (by omega) (fun _ => by omega) (fun _ => by omega) (by omega) (by rw [lz_35 h1]; omega)
    · rw [if_neg c7] at h
      exact h.elim
theorem Eo.pr {c i j : Nat} (h : Eo w c i j) : Pr w c i j := by
  obtain ⟨n, h⟩ := h
  exact ex_pr h
/-- how loose the m-th word is, where nothing is open -/
def ll (w : Nat → Int) (i m : Nat) : Nat := if dp w i m = 0 then lz w i (i + m) else 0
/-- the loosest of the first m words, and how loose -/
def bh (w : Nat → Int) (i : Nat) : Nat → Int × Nat
  | 0 => (-1, 0)
  | m + 1 => if (bh w i m).2 < ll w i m ∨ (0 < ll w i m ∧ ll w i m = (bh w i m).2 ∧ ll w i m < 6) then (((i + m : Nat) : Int), ll w i m) else bh w i m
theorem bh_s {i m : Nat} : bh w i (m + 1) = if (bh w i m).2 < ll w i m ∨ (0 < ll w i m ∧ ll w i m = (bh w i m).2 ∧ ll w i m < 6) then (((i + m : Nat) : Int), ll w i m) else bh w i m := rfl
theorem bh_le {i c : Nat} : ∀ m, (∀ k, k < m → ll w i k ≤ c) → (bh w i m).2 ≤ c
  | 0, _ => Nat.zero_le _
  | m + 1, h => by
    have a := bh_le m (fun k hk => h k (by omega))
    have b := h m (by omega)
    rw [bh_s]
    split
    · exact b
    · exact a
theorem bh_none {i : Nat} : ∀ m, (∀ k, k < m → ll w i k = 0) → bh w i m = (-1, 0)
  | 0, _ => rfl
  | m + 1, h => by
    have a := bh_none m (fun k hk => h k (by omega))
    have b := h m (by omega)
    rw [bh_s, b, a, if_neg (by show ¬ ((0 : Nat) < 0 ∨ _); omega)]
theorem bh_max {i a c : Nat} (hc : 0 < c) (h1 : ∀ k, k < a → ll w i k ≤ c) (h2 : ll w i a = c) : ∀ n, (∀ k, a < k → k < a + 1 + n → ll w i k ≤ c ∧ (c < 6 → ll w i k < c)) → (c = 6 → ∀ k, k < a → ll w i k ≤ 5) → bh w i (a + 1 + n) = (((i + a : Nat) : Int), c)
  | 0, _, h6 => by
    show bh w i (a + 1) = _
    have k := bh_le a h1
    rw [bh_s, h2]
    by_cases z : c = 6
    · have k5 := bh_le a (h6 z)
      rw [if_pos (Or.inl (by omega))]
    · rw [if_pos (by
        have := lz_le (w := w) (i := i) (k := i + a)
        have h6' : c ≤ 6 := by
          have : ll w i a ≤ 6 := by unfold ll; split <;> omega
          omega
        omega)]
  | n + 1, h, h6 => by
    have ihn := bh_max hc h1 h2 n (fun k k1 k2 => h k k1 (by omega)) h6
    have b := h (a + 1 + n) (by omega) (by omega)
    show bh w i (a + 1 + n + 1) = _
    rw [bh_s, ihn, if_neg]
    show ¬ (c < ll w i (a + 1 + n) ∨ (0 < ll w i (a + 1 + n) ∧ ll w i (a + 1 + n) = c ∧ ll w i (a + 1 + n) < 6))
    intro q
    have := b.1
    rcases q with q | ⟨q1, q2, q3⟩
    · omega
    · have := b.2 (by omega); omega
/-- where the reference splits -/
def lo (w : Nat → Int) (i j : Nat) : Int := if w i = 31 ∧ (bh w i (j - i)).2 < 4 then -1 else (bh w i (j - i)).1
theorem Lb.right {i a b c2 : Nat} (b1 : Bl w i a) (h2 : Lb w c2 (i + a + 1) b) (h36 : w (i + a) ≠ 36) (h37 : w (i + a) ≠ 37) (hno : ¬ opd (w (i + a))) (hf : fwd (w (i + a + 1))) : ∀ m, a < m → m < a + 1 + b → ll w i m ≤ c2 := by
  have d1 : dp w i (a + 1) = 0 := by rw [dp_s, if_neg h36, if_neg h37, b1.1]; omega
  have e : i + (a + 1) = i + a + 1 := by omega
  intro m h1 h3
  unfold ll
  by_cases q : dp w i m = 0
  · rw [if_pos q]
    by_cases x : m = a + 1
    · rw [x, e, lz_f hf (fun _ => by rw [show i + a + 1 - 1 = i + a by first | rfl | omega]; exact hno)]; omega
    · rw [show m = (a + 1) + (m - (a + 1)) by first | rfl | omega, dp_app, d1, e] at q
      have k := h2 (m - (a + 1)) (by omega) (by omega)
      rw [show i + a + 1 + (m - (a + 1)) = i + m by first | rfl | omega] at k
      rw [lz_c (i' := i + a + 1) (by omega) (by omega)]
      exact k
  · rw [if_neg q]; omega
theorem lb_ll {c i l m : Nat} (h : Lb w c i l) (hm : m < l) : ll w i m ≤ c := by
  unfold ll
  split
  · exact h m hm (by assumption)
  · omega
end LO
end
end
