section
section
variable {G : mG} {d a b c r r2 r3 : Nat} {M : mM}
theorem s_MW_twice {m : Int} (hm : m = 0 ∨ m = 1) (hO : mOk M) (hA : W3 M a r) (hr : mI M a 1 < r) (hz : 0 < mI M a 1 ∨ m = 1 ∨ True) : Cv G y_MW_twice d [vr a, vi m] M (fun M' => mOk M' ∧ FI (fun x => x = a ∨ x = a + 1) M M' ∧ W3 M' a r ∧ wv M' a = 2 * wv M a + m) := by
  have hA0 := hA
  obtain ⟨⟨w1, w2, w3, w4, w5, w6, w7⟩, wd, wt⟩ := hA
  refine k_MW_twice hO ⟨by omega, by omega⟩ (fun c0 hc0 => ?_)
  have hc0 : c0 = m := by rw [hc0]; split <;> omega
  subst hc0
  suffices H : ∀ (k : Nat) (i cy : Int) (M1 : mM), 0 ≤ i → mI M a 1 - i = k → 0 ≤ cy → cy ≤ 1 → mOk M1 → FI (fun x => x = a + 1) M M1 → (∀ j : Nat, (j : Int) < i → 0 ≤ mI M1 (a + 1) j ∧ mI M1 (a + 1) j < 16777216) → (∀ j : Nat, i ≤ (j : Int) → mI M1 (a + 1) j = mI M (a + 1) j) → dg (mI M1 (a + 1)) i.toNat + cy * 16777216 ^ i.toNat = 2 * dg (mI M (a + 1)) i.toNat + c0 → h_MW_twice_12 G d a cy i M1 (fun M' => mOk M' ∧ FI (fun x => x = a ∨ x = a + 1) M M' ∧ W3 M' a r ∧ wv M' a = 2 * wv M a + c0) from
    H (mI M a 1).toNat 0 c0 M (by omega) (by omega) (by omega) (by omega) hO FI.refl (fun j hj => by omega) (fun j hj => rfl) (by simp [dg])
  intro k
  induction k with
  | zero =>
    intro i cy M1 h0 hk hc0 hc1 hO1 hF1 hd1 he1 hv1
    have hF1' : FI (fun x => x = a ∨ x = a + 1) M M1 := hF1.mono (fun x q => Or.inr q)
    have hW1 : Wh M1 a r := hA0.1.out hF1 (by omega)
    have ea : mI M1 a = mI M a := hF1.2.2.2.2.2.2 _ (by omega)
    have hii : i.toNat = (mI M a 1).toNat := by omega
    rw [hii] at hv1
    refine k_MW_twice_12 hO1 ⟨by omega, by omega⟩ ⟨by omega, by omega⟩ ?_
    rw [hW1.2.1, hW1.2.2.2.1, ea]
    refine ⟨hW1.1, fun hc => ⟨fun q => ?_, fun q => ?_⟩, fun hc => by omega⟩
    · have hcy : cy = 0 := by omega
      rw [hcy] at hv1
      have hval : wv M1 a = 2 * wv M a + c0 := by
        unfold wv
        rw [ea]
        omega
      refine ⟨hO1, hF1', ⟨hW1, fun j hj => hd1 j (by rw [ea] at hj; omega), fun z => ?_⟩, hval⟩
      rw [ea] at z ⊢
      intro hz0
      have hlt : wv M1 a < 16777216 ^ ((mI M a 1).toNat - 1) := by
        unfold wv
        obtain ⟨m9, hm9⟩ : ∃ m9, (mI M a 1).toNat = m9 + 1 := ⟨(mI M a 1).toNat - 1, by omega⟩
        rw [ea, hm9, dg, show m9 = (mI M a 1 - 1).toNat by first | rfl | omega, hz0]
        have := dg_lt (f := mI M1 (a + 1)) (mI M a 1 - 1).toNat (fun j hj => (hd1 j (by omega)).2)
        rw [show (mI M a 1 - 1).toNat + 1 - 1 = (mI M a 1 - 1).toNat by first | rfl | omega]
        omega
      have n1 := hA0.nonneg
      have := hA0.ge (by omega)
      omega
    · have hcy : cy = 1 := by omega
      refine ⟨hW1.2.2.1, by omega, fun M4 e4 => ?_⟩
      have f1 : mI M4 a 1 = mI M a 1 := by rw [e4, mI_UI, if_neg (by omega), ea]
      rw [f1]
      refine ⟨⟨by omega, by omega⟩, fun M5 e5 => ?_⟩
      have hF4 : FI (fun x => x = a ∨ x = a + 1) M1 M4 := by rw [e4]; exact FI.ui (Or.inr rfl)
      have hF5 : FI (fun x => x = a ∨ x = a + 1) M4 M5 := by rw [e5]; exact FI.ui (Or.inl rfl)
      have hF := hF4.trans hF5
      have g1 : mI M5 a 1 = mI M a 1 + 1 := by rw [e5, mI_UI, if_pos ⟨rfl, rfl⟩]
      have g2 : ∀ j, mI M5 (a + 1) j = if j = (mI M a 1).toNat then cy else mI M1 (a + 1) j := fun j => by
        rw [e5, mI_UI, if_neg (by omega), e4, mI_UI]
        by_cases z : j = (mI M a 1).toNat
        · rw [if_pos ⟨rfl, z⟩, if_pos z]
        · rw [if_neg (fun w => z w.2), if_neg z]
      have hO4 : mOk M4 := by rw [e4]; exact mOk_UI hO1 ⟨by omega, by omega⟩
      refine ⟨by rw [e5]; exact mOk_UI hO4 ⟨by omega, by omega⟩, hF1'.trans hF, ⟨hW1.fi hF (by omega) (by omega), fun j hj => ?_, fun z => ?_⟩, ?_⟩
      · rw [g2]
        split
        · omega
        · exact hd1 j (by omega)
      · rw [g1, g2, if_pos (by omega)]
        omega
      · unfold wv
        rw [g1, show (mI M a 1 + 1).toNat = (mI M a 1).toNat + 1 by first | rfl | omega, dg, g2, if_pos rfl, dg_congr (g := mI M1 (a + 1)) _ (fun j hj => by rw [g2, if_neg (by omega)])]
        exact hv1
  | succ k ih =>
    intro i cy M1 h0 hk hc0 hc1 hO1 hF1 hd1 he1 hv1
    have hW1 : Wh M1 a r := hA0.1.out hF1 (by omega)
    have ea : mI M1 a = mI M a := hF1.2.2.2.2.2.2 _ (by omega)
    have hda := wd i.toNat (by omega)
    refine k_MW_twice_12 hO1 ⟨by omega, by omega⟩ ⟨by omega, by omega⟩ ?_
    rw [hW1.2.1, hW1.2.2.2.1, ea, he1 i.toNat (by omega)]
    refine ⟨hW1.1, fun hc => by omega, fun hc => ⟨hW1.2.2.1, by omega, ⟨by omega, by omega⟩, by omega, fun M4 e4 => ?_⟩⟩
    generalize hs : 2 * mI M (a + 1) i.toNat + cy = s at e4 ⊢
    have hs0 : 0 ≤ s := by omega
    rw [Int.tmod_eq_emod_of_nonneg hs0] at e4
    rw [Int.tdiv_eq_ediv_of_nonneg hs0]
    have hdm := Int.emod_add_mul_ediv s 16777216
    have hF4 : FI (fun x => x = a + 1) M1 M4 := by rw [e4]; exact FI.ui rfl
    have g2 : ∀ j, mI M4 (a + 1) j = if j = i.toNat then s % 16777216 else mI M1 (a + 1) j := fun j => by
      rw [e4, mI_UI]
      by_cases z : j = i.toNat
      · rw [if_pos ⟨rfl, z⟩, if_pos z]
      · rw [if_neg (fun w => z w.2), if_neg z]
    refine ih (i + 1) _ M4 (by omega) (by omega) (by omega) (by omega) (by rw [e4]; exact mOk_UI hO1 ⟨by omega, by omega⟩) (hF1.trans hF4) (fun j hj => ?_) (fun j hj => ?_) ?_
    · rw [g2]
      split
      · omega
      · exact hd1 j (by omega)
    · rw [g2, if_neg (by omega)]
      exact he1 j (by omega)
    · rw [show (i + 1).toNat = i.toNat + 1 by first | rfl | omega, dg, dg, g2, if_pos rfl, dg_congr (g := mI M1 (a + 1)) _ (fun j hj => by rw [g2, if_neg (by omega)]), Int.pow_succ]
      have e9 : s * 16777216 ^ i.toNat = (s % 16777216 + 16777216 * (s / 16777216)) * 16777216 ^ i.toNat := by rw [hdm]
      rw [Int.add_mul, ← hs, Int.add_mul, Int.mul_assoc] at e9
      rw [hs] at e9
      rw [show s / 16777216 * (16777216 ^ i.toNat * 16777216) = 16777216 * (s / 16777216) * 16777216 ^ i.toNat by rw [Int.mul_comm (16777216 ^ i.toNat), ← Int.mul_assoc, Int.mul_comm (s / 16777216)]]
      omega
end
end
