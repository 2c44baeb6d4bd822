/-! Bits of ints, the reference's bits. -/
theorem i_shr {x : Int} (k : Nat) (hk : k < 32) (h : i32 x) : shrI x k = x / 2 ^ k := by
  unfold shrI
  have e : (Int32.ofInt (k : Int) &&& 31) = nI k := by
    have : ∀ k, k < 32 → ((Int32.ofInt ((k : Nat) : Int) &&& 31) = nI k) := by decide
    exact this k hk
  rw [e]
  have e2 : ∀ k, k < 32 → ((nI k).toBitVec.smod 32).toNat = k := by decide
  rw [pk_shr _ _ k (e2 k hk), i32_toInt h, Int.shiftRight_eq_div_pow]
  norm_cast
theorem i_and {x : Int} (k : Nat) (hk : k < 32) (m : Int) (hm : m = 2 ^ k - 1) (h : i32 m) : andI x m = x % 2 ^ k := by
  unfold andI
  have hmask : (Int32.ofInt m).toBitVec.toNat = 2 ^ k - 1 := by
    have h1 := i32_toInt h
    have h2 : (Int32.ofInt m).toBitVec.toInt = m := h1
    rw [BitVec.toInt_eq_toNat_cond] at h2
    have h3 := (Int32.ofInt m).toBitVec.isLt
    have h4 : (2 : Int) ^ k = ((2 ^ k : Nat) : Int) := by norm_cast
    have h5 : 1 ≤ 2 ^ k := Nat.one_le_two_pow
    rw [h4] at hm
    unfold i32 at h
    split at h2 <;> omega
  rw [pk_and (Int32.ofInt x) k hmask]
  have hb : (Int32.ofInt x).toBitVec.toNat = (x % 4294967296).toNat := by
    show (BitVec.ofInt 32 x).toNat = _
    rw [BitVec.toNat_ofInt]
    rfl
  rw [hb]
  have hk31 : k ≤ 31 := by omega
  have hp : 2 ^ k ≤ 2 ^ 31 := Nat.pow_le_pow_right (by decide) hk31
  have hp0 : 0 < 2 ^ k := Nat.two_pow_pos k
  have hlt : (x % 4294967296).toNat % 2 ^ k < 2 ^ 31 := Nat.lt_of_lt_of_le (Nat.mod_lt _ hp0) hp
  rw [nI_toInt hlt]
  have hd : (2 : Int) ^ k ∣ 4294967296 := by
    refine ⟨2 ^ (32 - k), ?_⟩
    rw [← Int.pow_add, show k + (32 - k) = 32 by omega]
    decide
  have h4 : ((2 ^ k : Nat) : Int) = (2 : Int) ^ k := by norm_cast
  rw [Int.natCast_emod, h4, Int.toNat_of_nonneg (Int.emod_nonneg _ (by decide)), Int.emod_emod_of_dvd _ hd]
section W8
variable {G : mG} {d a r : Nat} {M : mM}
theorem pow24 (q : Nat) : (16777216 : Int) ^ q = 2 ^ (24 * q) := by
  rw [Int.pow_mul]
  rfl
theorem s_MW_bit {k : Int} (h0 : 0 ≤ k) (hk : i32 k) (hO : mOk M) (hA : W3 M a r) : Ci G y_MW_bit d [vr a, vi k] M (fun x M' => M' = M ∧ x = if wv M a / 2 ^ k.toNat % 2 = 1 then 1 else 0) := by
  have hA0 := hA
  obtain ⟨⟨w1, w2, w3, w4, w5, w6, w7⟩, wd, wt⟩ := hA
  refine k_MW_bit hO hk ?_
  rw [w2, w4, Int.tdiv_eq_ediv_of_nonneg h0, Int.tmod_eq_emod_of_nonneg h0]
  refine ⟨w1, fun hc => ⟨w3, by omega⟩, fun v hv => ⟨rfl, ?_⟩⟩
  rw [hv]
  have hsp : k.toNat = 24 * (k / 24).toNat + (k % 24).toNat := by omega
  by_cases q : mI M a 1 ≤ k / 24
  · have h1 := hA0.lt
    have h2 := hA0.nonneg
    have h3 := pow_mono (m := (mI M a 1).toNat) (n := (k / 24).toNat) (by omega)
    have h4 : wv M a < 2 ^ k.toNat := by
      rw [hsp, Int.pow_add, ← pow24]
      have : (16777216 : Int) ^ (k / 24).toNat * 1 ≤ 16777216 ^ (k / 24).toNat * 2 ^ (k % 24).toNat := Int.mul_le_mul_of_nonneg_left (by have : (0 : Int) < 2 ^ (k % 24).toNat := Int.pow_pos (by decide); omega) (Int.le_of_lt (B_pos _))
      omega
    rw [if_pos (Or.inl q), Int.ediv_eq_zero_of_lt h2 h4]
    rfl
  · have hdd := wd (k / 24).toNat (by omega)
    have e1 : andI (shrI (mI M (a + 1) (k / 24).toNat) (k % 24)) 1 = mI M (a + 1) (k / 24).toNat / 2 ^ (k % 24).toNat % 2 := by
      have := i_shr (x := mI M (a + 1) (k / 24).toNat) (k % 24).toNat (by omega) ⟨by omega, by omega⟩
      rw [show (((k % 24).toNat : Nat) : Int) = k % 24 by omega] at this
      rw [this, i_and 1 (by decide) 1 (by decide) ⟨by decide, by decide⟩]
      rfl
    have e2 : wv M a / 2 ^ k.toNat % 2 = mI M (a + 1) (k / 24).toNat / 2 ^ (k % 24).toNat % 2 := by
      obtain ⟨m, hm⟩ : ∃ m, (mI M a 1).toNat = (k / 24).toNat + 1 + m := ⟨(mI M a 1).toNat - ((k / 24).toNat + 1), by omega⟩
      unfold wv
      rw [hm, dg_split, dg_succ, Int.pow_succ, hsp, Int.pow_add, ← pow24]
      have hlo := dg_lt (f := mI M (a + 1)) (k / 24).toNat (fun j hj => (wd j (by omega)).2)
      have hlo0 := dg_nonneg (f := mI M (a + 1)) (k / 24).toNat (fun j hj => (wd j (by omega)).1)
      generalize hT : dg (fun j => mI M (a + 1) ((k / 24).toNat + 1 + j)) m = T
      generalize hL : dg (mI M (a + 1)) (k / 24).toNat = Lo at hlo hlo0 ⊢
      generalize hDg : mI M (a + 1) (k / 24).toNat = Dg at hdd ⊢
      have hB := B_pos (k / 24).toNat
      generalize hP : (16777216 : Int) ^ (k / 24).toNat = P at hB hlo ⊢
      rw [← Int.ediv_ediv_of_nonneg (Int.le_of_lt hB)]
      have e3 : (Lo + Dg * P + T * (P * 16777216)) / P = Dg + T * 16777216 := by
        rw [show Lo + Dg * P + T * (P * 16777216) = Lo + (Dg + T * 16777216) * P by rw [Int.add_mul, Int.mul_comm P, ← Int.mul_assoc]; omega, Int.add_mul_ediv_right _ _ (by omega), Int.ediv_eq_zero_of_lt hlo0 hlo]
        omega
      rw [e3]
      have hk24 : (k % 24).toNat < 24 := by omega
      generalize hs : (k % 24).toNat = s at hk24 ⊢
      have e4 : (16777216 : Int) = 2 ^ s * (2 * 2 ^ (23 - s)) := by
        rw [← Int.pow_succ', ← Int.pow_add, show s + (23 - s + 1) = 24 by omega]
        decide
      have hp2 : (0 : Int) < 2 ^ s := Int.pow_pos (by decide)
      rw [e4, show Dg + T * (2 ^ s * (2 * 2 ^ (23 - s))) = Dg + (T * 2 ^ (23 - s) * 2) * 2 ^ s by
        rw [Int.mul_comm (2 ^ s), ← Int.mul_assoc, ← Int.mul_assoc, Int.mul_assoc T 2, Int.mul_comm 2 (2 ^ (23 - s)), ← Int.mul_assoc], Int.add_mul_ediv_right _ _ (by omega)]
      omega
    rw [e1, e2]
    by_cases z : mI M (a + 1) (k / 24).toNat / 2 ^ (k % 24).toNat % 2 = 1
    · rw [if_neg (by intro w; rcases w with w | w; exact q w; exact w z), if_pos z]
    · rw [if_pos (Or.inr z), if_neg z]
/-- how many bits -/
theorem s_MW_places (hO : mOk M) (hA : W3 M a r) : Ci G y_MW_places d [vr a] M (fun x M' => M' = M ∧ 0 ≤ x ∧ x ≤ 24 * r ∧ wv M a < 2 ^ x.toNat ∧ (0 < x → 2 ^ (x - 1).toNat ≤ wv M a)) := by
  have hA0 := hA
  obtain ⟨⟨w1, w2, w3, w4, w5, w6, w7⟩, wd, wt⟩ := hA
  refine k_MW_places hO ?_
  rw [w2, w4]
  refine ⟨w1, fun hc => ⟨w3, by omega⟩, fun v hv => ?_⟩
  by_cases hz : mI M a 1 = 0
  · rw [if_pos hz] at hv
    rw [hz, hv]
    refine k_MW_places_33 hO ⟨by omega, by omega⟩ ⟨by omega, by omega⟩ ⟨fun hc => ⟨w1, fun x hx => ?_⟩, fun hc => by omega⟩
    rw [if_pos hz] at hx
    have h1 := hA0.lt
    rw [hz] at h1
    subst hx
    exact ⟨rfl, by omega, by omega, h1, fun q => by omega⟩
  · rw [if_neg hz] at hv
    have hdd := wd (mI M a 1 - 1).toNat (by omega)
    have hne := wt (by omega)
    have hlo := dg_lt (f := mI M (a + 1)) (mI M a 1 - 1).toNat (fun j hj => (wd j (by omega)).2)
    have hlo0 := dg_nonneg (f := mI M (a + 1)) (mI M a 1 - 1).toNat (fun j hj => (wd j (by omega)).1)
    have hval : wv M a = dg (mI M (a + 1)) (mI M a 1 - 1).toNat + v * 2 ^ (24 * (mI M a 1 - 1).toNat) := by
      unfold wv
      rw [show (mI M a 1).toNat = (mI M a 1 - 1).toNat + 1 by omega, dg_succ, hv, pow24]
    rw [pow24] at hlo
    have hP : (0 : Int) < 2 ^ (24 * (mI M a 1 - 1).toNat) := Int.pow_pos (by decide)
    -- the loop over the highest digit: what is left of it after s bits
    suffices H : ∀ (n : Nat) (y : Int) (s : Nat), 0 ≤ y → y < 2 ^ n → s + n = 24 → y = v / 2 ^ s → (y = 0 → 0 < s ∧ 0 < v / 2 ^ (s - 1)) → h_MW_places_33 G d a (24 * (mI M a 1 - 1) + s) y M (fun x M' => M' = M ∧ 0 ≤ x ∧ x ≤ 24 * r ∧ wv M a < 2 ^ x.toNat ∧ (0 < x → 2 ^ (x - 1).toNat ≤ wv M a)) by
      have h9 := H 24 v 0 (by omega) (by rw [hv]; exact hdd.2) rfl (by simp) (fun q => by omega)
      rw [show 24 * (mI M a 1 - 1) + ((0 : Nat) : Int) = 24 * (mI M a 1 - 1) by omega] at h9
      exact h9
    have fin : ∀ (s : Nat), s ≤ 24 → v / 2 ^ s = 0 → 0 < s → 0 < v / 2 ^ (s - 1) → h_MW_places_33 G d a (24 * (mI M a 1 - 1) + s) 0 M (fun x M' => M' = M ∧ 0 ≤ x ∧ x ≤ 24 * r ∧ wv M a < 2 ^ x.toNat ∧ (0 < x → 2 ^ (x - 1).toNat ≤ wv M a)) := by
      intro s hs24 hvs hs0 hvs1
      refine k_MW_places_33 hO ⟨by omega, by omega⟩ ⟨by omega, by omega⟩ ⟨fun hc => ⟨w1, fun x hx => ?_⟩, fun hc => by omega⟩
      rw [if_neg hz] at hx
      subst hx
      have hp2 : (0 : Int) < 2 ^ s := Int.pow_pos (by decide)
      have hp3 : (0 : Int) < 2 ^ (s - 1) := Int.pow_pos (by decide)
      have b1 : v < 2 ^ s := by
        have := Int.lt_ediv_add_one_mul_self v hp2
        rw [hvs] at this
        omega
      have b2 : 2 ^ (s - 1) ≤ v := by
        have := Int.ediv_mul_le v (show (2 : Int) ^ (s - 1) ≠ 0 by omega)
        have h2 : 1 * 2 ^ (s - 1) ≤ v / 2 ^ (s - 1) * 2 ^ (s - 1) := Int.mul_le_mul_of_nonneg_right (by omega) (Int.le_of_lt hp3)
        omega
      refine ⟨rfl, by omega, by omega, ?_, fun _ => ?_⟩
      · rw [hval, show (24 * (mI M a 1 - 1) + (s : Int)).toNat = 24 * (mI M a 1 - 1).toNat + s by omega, Int.pow_add]
        have : (v + 1) * 2 ^ (24 * (mI M a 1 - 1).toNat) ≤ 2 ^ s * 2 ^ (24 * (mI M a 1 - 1).toNat) := Int.mul_le_mul_of_nonneg_right (by omega) (Int.le_of_lt hP)
        rw [Int.add_mul] at this
        rw [Int.mul_comm (2 ^ (24 * (mI M a 1 - 1).toNat))]
        omega
      · rw [hval, show (24 * (mI M a 1 - 1) + (s : Int) - 1).toNat = 24 * (mI M a 1 - 1).toNat + (s - 1) by omega, Int.pow_add]
        have : 2 ^ (s - 1) * 2 ^ (24 * (mI M a 1 - 1).toNat) ≤ v * 2 ^ (24 * (mI M a 1 - 1).toNat) := Int.mul_le_mul_of_nonneg_right b2 (Int.le_of_lt hP)
        rw [Int.mul_comm (2 ^ (24 * (mI M a 1 - 1).toNat))]
        omega
    intro n
    induction n with
    | zero =>
      intro y s y0 yn hsn hy hy0
      have hyz : y = 0 := by
        have : y < 1 := yn
        omega
      subst hyz
      exact fin s (by omega) hy.symm (hy0 rfl).1 (hy0 rfl).2
    | succ n ih =>
      intro y s y0 yn hsn hy hy0
      by_cases hyz : y = 0
      · subst hyz
        exact fin s (by omega) hy.symm (hy0 rfl).1 (hy0 rfl).2
      · have hyb : y ≤ v := by rw [hy]; exact Int.ediv_le_self _ (by omega)
        refine k_MW_places_33 hO ⟨by omega, by omega⟩ ⟨by omega, by omega⟩ ⟨fun hc => by omega, fun hc => ?_⟩
        rw [Int.tdiv_eq_ediv_of_nonneg y0, show 24 * (mI M a 1 - 1) + (s : Int) + 1 = 24 * (mI M a 1 - 1) + ((s + 1 : Nat) : Int) by omega]
        rw [Int.pow_succ] at yn
        refine ih (y / 2) (s + 1) (by omega) (by omega) (by omega) ?_ (fun q => ⟨by omega, ?_⟩)
        · rw [hy, Int.pow_succ, Int.ediv_ediv_of_nonneg (Int.le_of_lt (Int.pow_pos (by decide)))]
        · rw [show s + 1 - 1 = s by omega, ← hy]
          omega
end W8
