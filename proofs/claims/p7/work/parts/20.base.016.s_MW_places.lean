section
section
variable {G : mG} {d a r : Nat} {M : mM}
/-- how many bits -/
theorem s_MW_places (hO : mOk M) (hA : W3 M a r) : Ci G y_MW_places d [vr a] M (fun x M' => M' = M ∧ 0 ≤ x ∧ x ≤ 24 * r ∧ wv M a < 2 ^ x.toNat ∧ (0 < x → 2 ^ (x - 1).toNat ≤ wv M a)) := by
  have hA0 := hA
  obtain ⟨⟨w1, w2, w3, w4, w5, w6, w7⟩, wd, wt⟩ := hA
  refine k_MW_places hO ?_
  rw [w2, w4]
  refine ⟨w1, fun hc => ⟨w3, by omega⟩, fun v hv => ?_⟩
  by_cases hz : mI M a 1 = 0
  · rw [if_pos hz] at hv
    rw [hz, hv]
    refine k_MW_places_33 hO ⟨by omega, by omega⟩ ⟨by omega, by omega⟩ ⟨fun hc => ⟨w1, fun x hx => ?_⟩, fun hc => by omega⟩
    rw [if_pos hz] at hx
    have h1 := hA0.lt
    rw [hz] at h1
    subst hx
    exact ⟨rfl, by omega, by omega, h1, fun q => by omega⟩
  · rw [if_neg hz] at hv
    have hdd := wd (mI M a 1 - 1).toNat (by omega)
    have hne := wt (by omega)
    have hlo := dg_lt (f := mI M (a + 1)) (mI M a 1 - 1).toNat (fun j hj => (wd j (by omega)).2)
    have hlo0 := dg_nonneg (f := mI M (a + 1)) (mI M a 1 - 1).toNat (fun j hj => (wd j (by omega)).1)
    have hval : wv M a = dg (mI M (a + 1)) (mI M a 1 - 1).toNat + v * 2 ^ (24 * (mI M a 1 - 1).toNat) := by
      unfold wv
      rw [show (mI M a 1).toNat = (mI M a 1 - 1).toNat + 1 by first | rfl | omega, dg_succ, hv, pow24]
    rw [pow24] at hlo
    have hP : (0 : Int) < 2 ^ (24 * (mI M a 1 - 1).toNat) := Int.pow_pos (by decide)
    -- the loop over the highest digit: what is left of it after s bits
    suffices H : ∀ (n : Nat) (y : Int) (s : Nat), 0 ≤ y → y < 2 ^ n → s + n = 24 → y = v / 2 ^ s → (y = 0 → 0 < s ∧ 0 < v / 2 ^ (s - 1)) → h_MW_places_33 G d a (24 * (mI M a 1 - 1) + s) y M (fun x M' => M' = M ∧ 0 ≤ x ∧ x ≤ 24 * r ∧ wv M a < 2 ^ x.toNat ∧ (0 < x → 2 ^ (x - 1).toNat ≤ wv M a)) by
      have h9 := H 24 v 0 (by omega) (by rw [hv]; exact hdd.2) rfl (by simp) (fun q => by omega)
      rw [show 24 * (mI M a 1 - 1) + ((0 : Nat) : Int) = 24 * (mI M a 1 - 1) by first | rfl | omega] at h9
      exact h9
    have fin : ∀ (s : Nat), s ≤ 24 → v / 2 ^ s = 0 → 0 < s → 0 < v / 2 ^ (s - 1) → h_MW_places_33 G d a (24 * (mI M a 1 - 1) + s) 0 M (fun x M' => M' = M ∧ 0 ≤ x ∧ x ≤ 24 * r ∧ wv M a < 2 ^ x.toNat ∧ (0 < x → 2 ^ (x - 1).toNat ≤ wv M a)) := by
      intro s hs24 hvs hs0 hvs1
      refine k_MW_places_33 hO ⟨by omega, by omega⟩ ⟨by omega, by omega⟩ ⟨fun hc => ⟨w1, fun x hx => ?_⟩, fun hc => by omega⟩
      rw [if_neg hz] at hx
      subst hx
      have hp2 : (0 : Int) < 2 ^ s := Int.pow_pos (by decide)
      have hp3 : (0 : Int) < 2 ^ (s - 1) := Int.pow_pos (by decide)
      have b1 : v < 2 ^ s := by
        have := Int.lt_ediv_add_one_mul_self v hp2
        rw [hvs] at this
        omega
      have b2 : 2 ^ (s - 1) ≤ v := by
        have := Int.ediv_mul_le v (show (2 : Int) ^ (s - 1) ≠ 0 by omega)
        have h2 : 1 * 2 ^ (s - 1) ≤ v / 2 ^ (s - 1) * 2 ^ (s - 1) := Int.mul_le_mul_of_nonneg_right (by omega) (Int.le_of_lt hp3)
        omega
      refine ⟨rfl, by omega, by omega, ?_, fun _ => ?_⟩
      · rw [hval, show (24 * (mI M a 1 - 1) + (s : Int)).toNat = 24 * (mI M a 1 - 1).toNat + s by first | rfl | omega, Int.pow_add]
        have : (v + 1) * 2 ^ (24 * (mI M a 1 - 1).toNat) ≤ 2 ^ s * 2 ^ (24 * (mI M a 1 - 1).toNat) := Int.mul_le_mul_of_nonneg_right (by omega) (Int.le_of_lt hP)
        rw [Int.add_mul] at this
        rw [Int.mul_comm (2 ^ (24 * (mI M a 1 - 1).toNat))]
        omega
      · rw [hval, show (24 * (mI M a 1 - 1) + (s : Int) - 1).toNat = 24 * (mI M a 1 - 1).toNat + (s - 1) by first | rfl | omega, Int.pow_add]
        have : 2 ^ (s - 1) * 2 ^ (24 * (mI M a 1 - 1).toNat) ≤ v * 2 ^ (24 * (mI M a 1 - 1).toNat) := Int.mul_le_mul_of_nonneg_right b2 (Int.le_of_lt hP)
        rw [Int.mul_comm (2 ^ (24 * (mI M a 1 - 1).toNat))]
        omega
    intro n
    induction n with
    | zero =>
      intro y s y0 yn hsn hy hy0
      have hyz : y = 0 := by
        have : y < 1 := yn
        omega
      subst hyz
      exact fin s (by omega) hy.symm (hy0 rfl).1 (hy0 rfl).2
    | succ n ih =>
      intro y s y0 yn hsn hy hy0
      by_cases hyz : y = 0
      · subst hyz
        exact fin s (by omega) hy.symm (hy0 rfl).1 (hy0 rfl).2
      · have hyb : y ≤ v := by rw [hy]; exact Int.ediv_le_self _ (by omega)
        refine k_MW_places_33 hO ⟨by omega, by omega⟩ ⟨by omega, by omega⟩ ⟨fun hc => by omega, fun hc => ?_⟩
        rw [Int.tdiv_eq_ediv_of_nonneg y0, show 24 * (mI M a 1 - 1) + (s : Int) + 1 = 24 * (mI M a 1 - 1) + ((s + 1 : Nat) : Int) by first | rfl | omega]
        rw [Int.pow_succ] at yn
        refine ih (y / 2) (s + 1) (by omega) (by omega) (by omega) ?_ (fun q => ⟨by omega, ?_⟩)
        · rw [hy, Int.pow_succ, Int.ediv_ediv_of_nonneg (Int.le_of_lt (Int.pow_pos (by decide)))]
        · rw [show s + 1 - 1 = s by first | rfl | omega, ← hy]
          omega
end
end
