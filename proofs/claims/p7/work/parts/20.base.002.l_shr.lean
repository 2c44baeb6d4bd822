section
def W3 (M : mM) (a r : Nat) : Prop := Wh M a r ∧ WD M a ∧ WT M a
theorem Wh.fi {S : Nat → Prop} {M M' : mM} {a r : Nat} (h : Wh M a r) (f : FI S M M') (h0 : 0 ≤ mI M' a 1) (h1 : mI M' a 1 ≤ r) : Wh M' a r := by
  obtain ⟨w1, w2, w3, w4, w5, w6, w7⟩ := h
  exact ⟨by rw [f.1]; exact w1, by rw [f.2.2.1]; exact w2, by rw [f.1]; exact w3, by rw [f.2.1]; exact w4, w5, h0, h1⟩
theorem W3.out {S : Nat → Prop} {M M' : mM} {a r : Nat} (h : W3 M a r) (f : FI S M M') (h0 : ¬ S a) (h1 : ¬ S (a + 1)) : W3 M' a r ∧ wv M' a = wv M a := by
  obtain ⟨w, wd, wt⟩ := h
  have e0 := f.2.2.2.2.2.2 a h0
  have e1 := f.2.2.2.2.2.2 (a + 1) h1
  refine ⟨⟨w.fi f (by rw [e0]; exact w.2.2.2.2.2.1) (by rw [e0]; exact w.2.2.2.2.2.2), ?_, ?_⟩, ?_⟩
  · intro j hj
    rw [e0] at hj
    rw [e1]
    exact wd j hj
  · intro q
    rw [e0] at q ⊢
    rw [e1]
    exact wt q
  · unfold wv
    rw [e0, e1]
theorem Wh.out {S : Nat → Prop} {M M' : mM} {a r : Nat} (h : Wh M a r) (f : FI S M M') (h0 : ¬ S a) : Wh M' a r := by
  have e0 := f.2.2.2.2.2.2 a h0
  exact h.fi f (by rw [e0]; exact h.2.2.2.2.2.1) (by rw [e0]; exact h.2.2.2.2.2.2)
theorem W3.nonneg {M : mM} {a r : Nat} (h : W3 M a r) : 0 ≤ wv M a := dg_nonneg _ (fun j hj => (h.2.1 j (by have := h.1.2.2.2.2.2.1; omega)).1)
theorem W3.lt {M : mM} {a r : Nat} (h : W3 M a r) : wv M a < 16777216 ^ (mI M a 1).toNat := dg_lt _ (fun j hj => (h.2.1 j (by have := h.1.2.2.2.2.2.1; omega)).2)
theorem W3.ge {M : mM} {a r : Nat} (h : W3 M a r) (hn : 0 < mI M a 1) : 16777216 ^ ((mI M a 1).toNat - 1) ≤ wv M a := by
  have h1 := h.2.2 hn
  have h2 := h.2.1 (mI M a 1 - 1).toNat (by omega)
  obtain ⟨k, hk⟩ : ∃ k, (mI M a 1).toNat = k + 1 := ⟨(mI M a 1).toNat - 1, by omega⟩
  unfold wv
  rw [hk, dg]
  rw [show (mI M a 1 - 1).toNat = k by first | rfl | omega] at h1 h2
  have h3 := dg_nonneg (f := mI M (a + 1)) k (fun j hj => (h.2.1 j (by omega)).1)
  have h4 : 1 * 16777216 ^ k ≤ mI M (a + 1) k * 16777216 ^ k := Int.mul_le_mul_of_nonneg_right (by omega) (Int.le_of_lt (B_pos k))
  rw [show k + 1 - 1 = k by first | rfl | omega]
  omega
theorem pow_mono {m n : Nat} (h : m ≤ n) : (16777216 : Int) ^ m ≤ 16777216 ^ n := by
  obtain ⟨k, rfl⟩ := Nat.le.dest h
  rw [Int.pow_add]
  have h1 := B_pos m
  have h2 := B_pos k
  have : (16777216 : Int) ^ m * 1 ≤ 16777216 ^ m * 16777216 ^ k := Int.mul_le_mul_of_nonneg_left (by omega) (Int.le_of_lt h1)
  omega
/-- as many places as the number needs -/
theorem W3.size {M : mM} {a r k : Nat} (h : W3 M a r) (hv : wv M a < 16777216 ^ k) : mI M a 1 ≤ k := by
  have h0 := h.1.2.2.2.2.2.1
  refine Classical.not_not.mp (fun q => ?_)
  have h1 := h.ge (by omega)
  have h2 := pow_mono (m := k) (n := (mI M a 1).toNat - 1) (by omega)
  omega
theorem W3.zero {M : mM} {a r : Nat} (h : W3 M a r) : mI M a 1 = 0 ↔ wv M a = 0 := by
  have h0 := h.1.2.2.2.2.2.1
  constructor
  · intro q
    unfold wv
    rw [q]
    rfl
  · intro q
    refine Classical.not_not.mp (fun z => ?_)
    have h1 := h.ge (by omega)
    have h2 := B_pos ((mI M a 1).toNat - 1)
    omega
theorem l_and24 {x : Int} (h : 0 ≤ x) (h2 : x < 9223372036854775808) : andL x 16777215 = x % 16777216 := by
  obtain ⟨n, rfl⟩ := Int.eq_ofNat_of_zero_le h
  unfold andL
  have e : Int64.ofInt (n : Int) = lN n := rfl
  have e2 : Int64.ofInt 16777215 = lN (2 ^ 24 - 1) := by decide
  rw [e, e2]
  have hn : n < 2 ^ 63 := by omega
  have : (lN n &&& lN (2 ^ 24 - 1)) = lN (n % 2 ^ 24) := by
    apply Int64.toBitVec_inj.mp
    show BitVec.ofNat 64 n &&& BitVec.ofNat 64 (2 ^ 24 - 1) = BitVec.ofNat 64 (n % 2 ^ 24)
    apply BitVec.eq_of_toNat_eq
    simp only [BitVec.toNat_and, BitVec.toNat_ofNat]
    rw [Nat.mod_eq_of_lt (show n < 2 ^ 64 by omega), Nat.mod_eq_of_lt (show 2 ^ 24 - 1 < 2 ^ 64 by decide), Nat.and_two_pow_sub_one_eq_mod, Nat.mod_eq_of_lt (show n % 2 ^ 24 < 2 ^ 64 by omega)]
  rw [this, pk_lT (by omega)]
  omega
theorem l_shr {x : Int} (k : Nat) (hk : k < 64) (h : i64 x) : shrL x k = x / 2 ^ k := by
  unfold shrL
  have e : ((Int32.ofInt (k : Int)).toInt64 &&& 63) = lN k := by
    have : ∀ k, k < 64 → (((Int32.ofInt ((k : Nat) : Int)).toInt64 &&& 63) = lN k) := by decide
    exact this k hk
  rw [e]
  have e2 : ∀ k, k < 64 → ((lN k).toBitVec.smod 64).toNat = k := by decide
  show ((Int64.ofInt x).toBitVec.sshiftRight ((lN k).toBitVec.smod 64).toNat).toInt = _
  rw [e2 k hk, BitVec.toInt_sshiftRight, show (Int64.ofInt x).toBitVec.toInt = x from i64_toInt h, Int.shiftRight_eq_div_pow]
  norm_cast
end
