section
theorem i_shr {x : Int} (k : Nat) (hk : k < 32) (h : i32 x) : shrI x k = x / 2 ^ k := by
  unfold shrI
  have e : (Int32.ofInt (k : Int) &&& 31) = nI k := by
    have : ∀ k, k < 32 → ((Int32.ofInt ((k : Nat) : Int) &&& 31) = nI k) := by decide
    exact this k hk
  rw [e]
  have e2 : ∀ k, k < 32 → ((nI k).toBitVec.smod 32).toNat = k := by decide
  rw [pk_shr _ _ k (e2 k hk), i32_toInt h, Int.shiftRight_eq_div_pow]
  norm_cast
theorem i_and {x : Int} (k : Nat) (hk : k < 32) (m : Int) (hm : m = 2 ^ k - 1) (h : i32 m) : andI x m = x % 2 ^ k := by
  unfold andI
  have hmask : (Int32.ofInt m).toBitVec.toNat = 2 ^ k - 1 := by
    have h1 := i32_toInt h
    have h2 : (Int32.ofInt m).toBitVec.toInt = m := h1
    rw [BitVec.toInt_eq_toNat_cond] at h2
    have h3 := (Int32.ofInt m).toBitVec.isLt
    have h4 : (2 : Int) ^ k = ((2 ^ k : Nat) : Int) := by norm_cast
    have h5 : 1 ≤ 2 ^ k := Nat.one_le_two_pow
    rw [h4] at hm
    unfold i32 at h
    split at h2 <;> omega
  rw [pk_and (Int32.ofInt x) k hmask]
  have hb : (Int32.ofInt x).toBitVec.toNat = (x % 4294967296).toNat := by
    show (BitVec.ofInt 32 x).toNat = _
    rw [BitVec.toNat_ofInt]
    rfl
  rw [hb]
  have hk31 : k ≤ 31 := by omega
  have hp : 2 ^ k ≤ 2 ^ 31 := Nat.pow_le_pow_right (by decide) hk31
  have hp0 : 0 < 2 ^ k := Nat.two_pow_pos k
  have hlt : (x % 4294967296).toNat % 2 ^ k < 2 ^ 31 := Nat.lt_of_lt_of_le (Nat.mod_lt _ hp0) hp
  rw [nI_toInt hlt]
  have hd : (2 : Int) ^ k ∣ 4294967296 := by
    refine ⟨2 ^ (32 - k), ?_⟩
    rw [← Int.pow_add, show k + (32 - k) = 32 by first | rfl | omega]
    decide
  have h4 : ((2 ^ k : Nat) : Int) = (2 : Int) ^ k := by norm_cast
  rw [Int.natCast_emod, h4, Int.toNat_of_nonneg (Int.emod_nonneg _ (by decide)), Int.emod_emod_of_dvd _ hd]
end
