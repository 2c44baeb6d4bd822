section
section
variable {G : mG} {d a b c r r2 r3 : Nat} {M : mM}
theorem s_MW_halve (hO : mOk M) (hA : W3 M a r) : Cv G y_MW_halve (d + 1) [vr a] M (fun M' => mOk M' ∧ FI (fun x => x = a ∨ x = a + 1) M M' ∧ W3 M' a r ∧ wv M' a = wv M a / 2) := by
  have hA0 := hA
  obtain ⟨⟨w1, w2, w3, w4, w5, w6, w7⟩, wd, wt⟩ := hA
  refine k_MW_halve hO ?_
  suffices H : ∀ (k : Nat) (i : Int) (M1 : mM), 0 ≤ i → mI M a 1 - i = k → mOk M1 → FI (fun x => x = a + 1) M M1 → (∀ j : Nat, (j : Int) < i → 0 ≤ mI M1 (a + 1) j ∧ mI M1 (a + 1) j < 16777216) → (∀ j : Nat, i ≤ (j : Int) → mI M1 (a + 1) j = mI M (a + 1) j) → 2 * dg (mI M1 (a + 1)) i.toNat + (wg M a 0) % 2 = dg (mI M (a + 1)) i.toNat + (if i = 0 then wg M a 0 % 2 else (wg M a i.toNat % 2) * 16777216 ^ i.toNat) → h_MW_halve_2 G d a i M1 (fun M' => mOk M' ∧ FI (fun x => x = a ∨ x = a + 1) M M' ∧ W3 M' a r ∧ wv M' a = wv M a / 2) from
    H (mI M a 1).toNat 0 M (by omega) (by omega) hO FI.refl (fun j hj => by omega) (fun j hj => rfl) (by simp [dg])
  intro k
  induction k with
  | zero =>
    intro i M1 h0 hk hO1 hF1 hd1 he1 hv1
    have hW1 : Wh M1 a r := hA0.1.out hF1 (by omega)
    have ea : mI M1 a = mI M a := hF1.2.2.2.2.2.2 _ (by omega)
    refine k_MW_halve_2 hO1 ⟨by omega, by omega⟩ ⟨hW1.1, fun hc => ?_, fun hc => by rw [ea] at hc; omega⟩
    refine (s_MW_trim (mI M1 a 1).toNat M1 hO1 hW1 (fun j hj => hd1 j (by rw [ea] at hj; omega)) (by rw [ea]; omega)).mono (fun M2 h2 => ?_)
    obtain ⟨g1, g2, g3, g4, g5, g6⟩ := h2
    refine ⟨g1, g1, (hF1.mono (fun x q => Or.inr q)).trans (g2.mono (fun x q => Or.inl q)), ⟨g3, g4, g5⟩, ?_⟩
    rw [g6]
    have hw : wg M a i.toNat = 0 := by unfold wg; rw [if_pos (by omega)]
    have hii : i.toNat = (mI M a 1).toNat := by omega
    have hb := hA0.wgb 0
    have hvv : 2 * wv M1 a + wg M a 0 % 2 = wv M a := by
      unfold wv
      rw [ea, ← hii, hv1]
      by_cases z : i = 0
      · rw [if_pos z]
        rw [z] at hw
        rw [show wg M a 0 = 0 from hw]
        simp
      · rw [if_neg z, hw]
        omega
    omega
  | succ k ih =>
    intro i M1 h0 hk hO1 hF1 hd1 he1 hv1
    have hW1 : Wh M1 a r := hA0.1.out hF1 (by omega)
    have ea : mI M1 a = mI M a := hF1.2.2.2.2.2.2 _ (by omega)
    have hda := wd i.toNat (by omega)
    have hb1 := hA0.wgb (i.toNat + 1)
    refine k_MW_halve_2 hO1 ⟨by omega, by omega⟩ ?_
    rw [hW1.2.1, hW1.2.2.2.1, ea, he1 i.toNat (by omega), he1 (i + 1).toNat (by omega)]
    refine ⟨hW1.1, fun hc => by omega, fun hc => ⟨hW1.2.2.1, by omega, ⟨by omega, by omega⟩, fun q => by omega, fun v hv => ?_⟩⟩
    have hv' : v = wg M a (i.toNat + 1) % 2 * 8388608 := by
      rw [hv]
      unfold wg
      by_cases z : mI M a 1 ≤ i + 1
      · rw [if_pos z, if_pos (by omega)]; rfl
      · rw [if_neg z, if_neg (by omega), show (i + 1).toNat = i.toNat + 1 by first | rfl | omega, Int.tmod_eq_emod_of_nonneg (wd _ (by omega)).1]
    rw [Int.tdiv_eq_ediv_of_nonneg hda.1]
    refine ⟨by omega, ⟨by omega, by omega⟩, fun M4 e4 => ?_⟩
    have hF4 : FI (fun x => x = a + 1) M1 M4 := by rw [e4]; exact FI.ui rfl
    have g2 : ∀ j, mI M4 (a + 1) j = if j = i.toNat then mI M (a + 1) i.toNat / 2 + v else mI M1 (a + 1) j := fun j => by
      rw [e4, mI_UI]
      by_cases z : j = i.toNat
      · rw [if_pos ⟨rfl, z⟩, if_pos z]
      · rw [if_neg (fun w => z w.2), if_neg z]
    refine ih (i + 1) M4 (by omega) (by omega) (by rw [e4]; exact mOk_UI hO1 ⟨by omega, by omega⟩) (hF1.trans hF4) (fun j hj => ?_) (fun j hj => ?_) ?_
    · rw [g2]
      split
      · omega
      · exact hd1 j (by omega)
    · rw [g2, if_neg (by omega)]
      exact he1 j (by omega)
    · have hwi : wg M a i.toNat = mI M (a + 1) i.toNat := by unfold wg; rw [if_neg (by omega)]
      rw [if_neg (by omega), show (i + 1).toNat = i.toNat + 1 by first | rfl | omega, dg, dg, g2, if_pos rfl, dg_congr (g := mI M1 (a + 1)) _ (fun j hj => by rw [g2, if_neg (by omega)]), Int.pow_succ]
      have e5 : wg M a (i.toNat + 1) % 2 * (16777216 ^ i.toNat * 16777216) = 2 * (v * 16777216 ^ i.toNat) := by
        rw [hv', Int.mul_comm (16777216 ^ i.toNat), ← Int.mul_assoc, ← Int.mul_assoc]
        congr 1
        omega
      have e6 : mI M (a + 1) i.toNat * 16777216 ^ i.toNat = (2 * (mI M (a + 1) i.toNat / 2) + mI M (a + 1) i.toNat % 2) * 16777216 ^ i.toNat := by congr 1; omega
      rw [Int.add_mul, Int.mul_assoc] at e6
      rw [e5, Int.add_mul]
      by_cases z : i = 0
      · rw [if_pos z] at hv1
        subst z
        simp [dg] at e6 ⊢
        have hwi0 : wg M a 0 = mI M (a + 1) 0 := hwi
        rw [hwi0]
        omega
      · rw [if_neg z, hwi] at hv1
        omega
end
end
