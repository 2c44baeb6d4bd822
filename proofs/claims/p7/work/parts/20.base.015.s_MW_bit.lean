section
section
variable {G : mG} {d a r : Nat} {M : mM}
theorem pow24 (q : Nat) : (16777216 : Int) ^ q = 2 ^ (24 * q) := by
  rw [Int.pow_mul]
  rfl
theorem s_MW_bit {k : Int} (h0 : 0 ≤ k) (hk : i32 k) (hO : mOk M) (hA : W3 M a r) : Ci G y_MW_bit d [vr a, vi k] M (fun x M' => M' = M ∧ x = if wv M a / 2 ^ k.toNat % 2 = 1 then 1 else 0) := by
  have hA0 := hA
  obtain ⟨⟨w1, w2, w3, w4, w5, w6, w7⟩, wd, wt⟩ := hA
  refine k_MW_bit hO hk ?_
  rw [w2, w4, Int.tdiv_eq_ediv_of_nonneg h0, Int.tmod_eq_emod_of_nonneg h0]
  refine ⟨w1, fun hc => ⟨w3, by omega⟩, fun v hv => ⟨rfl, ?_⟩⟩
  rw [hv]
  have hsp : k.toNat = 24 * (k / 24).toNat + (k % 24).toNat := by omega
  by_cases q : mI M a 1 ≤ k / 24
  · have h1 := hA0.lt
    have h2 := hA0.nonneg
    have h3 := pow_mono (m := (mI M a 1).toNat) (n := (k / 24).toNat) (by omega)
    have h4 : wv M a < 2 ^ k.toNat := by
      rw [hsp, Int.pow_add, ← pow24]
      have : (16777216 : Int) ^ (k / 24).toNat * 1 ≤ 16777216 ^ (k / 24).toNat * 2 ^ (k % 24).toNat := Int.mul_le_mul_of_nonneg_left (by have : (0 : Int) < 2 ^ (k % 24).toNat := Int.pow_pos (by decide); omega) (Int.le_of_lt (B_pos _))
      omega
    rw [if_pos (Or.inl q), Int.ediv_eq_zero_of_lt h2 h4]
    rfl
  · have hdd := wd (k / 24).toNat (by omega)
    have e1 : andI (shrI (mI M (a + 1) (k / 24).toNat) (k % 24)) 1 = mI M (a + 1) (k / 24).toNat / 2 ^ (k % 24).toNat % 2 := by
      have := i_shr (x := mI M (a + 1) (k / 24).toNat) (k % 24).toNat (by omega) ⟨by omega, by omega⟩
      rw [show (((k % 24).toNat : Nat) : Int) = k % 24 by first | rfl | omega] at this
      rw [this, i_and 1 (by decide) 1 (by decide) ⟨by decide, by decide⟩]
      rfl
    have e2 : wv M a / 2 ^ k.toNat % 2 = mI M (a + 1) (k / 24).toNat / 2 ^ (k % 24).toNat % 2 := by
      obtain ⟨m, hm⟩ : ∃ m, (mI M a 1).toNat = (k / 24).toNat + 1 + m := ⟨(mI M a 1).toNat - ((k / 24).toNat + 1), by omega⟩
      unfold wv
      rw [hm, dg_split, dg_succ, Int.pow_succ, hsp, Int.pow_add, ← pow24]
      have hlo := dg_lt (f := mI M (a + 1)) (k / 24).toNat (fun j hj => (wd j (by omega)).2)
      have hlo0 := dg_nonneg (f := mI M (a + 1)) (k / 24).toNat (fun j hj => (wd j (by omega)).1)
      generalize hT : dg (fun j => mI M (a + 1) ((k / 24).toNat + 1 + j)) m = T
      generalize hL : dg (mI M (a + 1)) (k / 24).toNat = Lo at hlo hlo0 ⊢
      generalize hDg : mI M (a + 1) (k / 24).toNat = Dg at hdd ⊢
      have hB := B_pos (k / 24).toNat
      generalize hP : (16777216 : Int) ^ (k / 24).toNat = P at hB hlo ⊢
      rw [← Int.ediv_ediv_of_nonneg (Int.le_of_lt hB)]
      have e3 : (Lo + Dg * P + T * (P * 16777216)) / P = Dg + T * 16777216 := by
        rw [show Lo + Dg * P + T * (P * 16777216) = Lo + (Dg + T * 16777216) * P by rw [Int.add_mul, Int.mul_comm P, ← Int.mul_assoc]; omega, Int.add_mul_ediv_right _ _ (by omega), Int.ediv_eq_zero_of_lt hlo0 hlo]
        omega
      rw [e3]
      have hk24 : (k % 24).toNat < 24 := by omega
      generalize hs : (k % 24).toNat = s at hk24 ⊢
      have e4 : (16777216 : Int) = 2 ^ s * (2 * 2 ^ (23 - s)) := by
        rw [← Int.pow_succ', ← Int.pow_add, show s + (23 - s + 1) = 24 by first | rfl | omega]
        decide
      have hp2 : (0 : Int) < 2 ^ s := Int.pow_pos (by decide)
      rw [e4, show Dg + T * (2 ^ s * (2 * 2 ^ (23 - s))) = Dg + (T * 2 ^ (23 - s) * 2) * 2 ^ s by
        rw [Int.mul_comm (2 ^ s), ← Int.mul_assoc, ← Int.mul_assoc, Int.mul_assoc T 2, Int.mul_comm 2 (2 ^ (23 - s)), ← Int.mul_assoc], Int.add_mul_ediv_right _ _ (by omega)]
      omega
    rw [e1, e2]
    by_cases z : mI M (a + 1) (k / 24).toNat / 2 ^ (k % 24).toNat % 2 = 1
    · rw [if_neg (by intro w; rcases w with w | w; exact q w; exact w z), if_pos z]
    · rw [if_pos (Or.inr z), if_neg z]
end
end
