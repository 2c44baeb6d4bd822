section
section
variable {G : mG} {d a b c r r2 r3 : Nat} {M : mM}
theorem s_MW_add (hO : mOk M) (hA : W3 M a r) (hB : W3 M b r2) (hne : a ≠ b) (hr : mI M a 1 < r ∧ mI M b 1 < r) : Cv G y_MW_add (d + 1) [vr a, vr b] M (fun M' => mOk M' ∧ FI (fun x => x = a ∨ x = a + 1) M M' ∧ W3 M' a r ∧ wv M' a = wv M a + wv M b) := by
  have hA0 := hA
  have hB0 := hB
  obtain ⟨⟨w1, w2, w3, w4, w5, w6, w7⟩, wd, wt⟩ := hA
  obtain ⟨⟨v1, v2, v3, v4, v5, v6, v7⟩, vd, vt⟩ := hB
  have hab : a ≠ b + 1 := fun q => by rw [← q, w1] at v3; omega
  have hba : a + 1 ≠ b := fun q => by rw [q, v1] at w3; omega
  refine k_MW_add hO ⟨w1, v1, fun n hn => ?_⟩
  have hn1 : mI M a 1 ≤ n ∧ mI M b 1 ≤ n ∧ n < r ∧ (n = mI M a 1 ∨ n = mI M b 1) := by rw [hn]; split <;> omega
  suffices H : ∀ (k : Nat) (i cy : Int) (M1 : mM), 0 ≤ i → n - i = k → 0 ≤ cy → cy ≤ 1 → mOk M1 → FI (fun x => x = a + 1) M M1 → (∀ j : Nat, (j : Int) < i → 0 ≤ mI M1 (a + 1) j ∧ mI M1 (a + 1) j < 16777216) → (∀ j : Nat, i ≤ (j : Int) → mI M1 (a + 1) j = mI M (a + 1) j) → dg (mI M1 (a + 1)) i.toNat + cy * 16777216 ^ i.toNat = dg (wg M a) i.toNat + dg (wg M b) i.toNat → h_MW_add_28 G d a b n cy i M1 (fun M' => mOk M' ∧ FI (fun x => x = a ∨ x = a + 1) M M' ∧ W3 M' a r ∧ wv M' a = wv M a + wv M b) from
    H n.toNat 0 0 M (by omega) (by omega) (by omega) (by omega) hO FI.refl (fun j hj => by omega) (fun j hj => rfl) (by simp [dg])
  intro k
  induction k with
  | zero =>
    intro i cy M1 h0 hk hc0 hc1 hO1 hF1 hd1 he1 hv1
    have hi : i = n := by omega
    have hF1' : FI (fun x => x = a ∨ x = a + 1) M M1 := hF1.mono (fun x q => Or.inr q)
    have hW1 : Wh M1 a r := hA0.1.out hF1 (by omega)
    have ea : mI M1 a = mI M a := hF1.2.2.2.2.2.2 _ (by omega)
    refine k_MW_add_28 hO1 ⟨by omega, by omega⟩ ⟨by omega, by omega⟩ ⟨by omega, by omega⟩ ⟨fun hc => ⟨hW1.1, fun M3 e3 => ⟨fun q => ?_, fun q => ?_⟩⟩, fun hc => by omega⟩
    · -- no carry
      have hcy : cy = 0 := by omega
      have hF3 : FI (fun x => x = a ∨ x = a + 1) M1 M3 := by rw [e3]; exact FI.ui (Or.inl rfl)
      have e1 : mI M3 a 1 = n := by rw [e3, mI_UI, if_pos ⟨rfl, rfl⟩]
      have e2 : ∀ j, mI M3 (a + 1) j = mI M1 (a + 1) j := fun j => by rw [e3, mI_UI, if_neg (by omega)]
      have hval : wv M3 a = wv M a + wv M b := by
        unfold wv
        rw [e1, dg_congr _ (fun j _ => e2 j)]
        rw [hcy, hi, dg_wg w6 (by omega), dg_wg v6 (by omega)] at hv1
        unfold wv at hv1
        omega
      refine ⟨by rw [e3]; exact mOk_UI hO1 ⟨by omega, by omega⟩, hF1'.trans hF3, ⟨hW1.fi hF3 (by omega) (by omega), fun j hj => ?_, fun z => ?_⟩, hval⟩
      · rw [e2]; exact hd1 j (by omega)
      · -- the highest digit
        rw [e1] at z ⊢
        rw [e2]
        intro hz0
        have hlt : wv M3 a < 16777216 ^ (n.toNat - 1) := by
          unfold wv
          obtain ⟨m, hm⟩ : ∃ m, n.toNat = m + 1 := ⟨n.toNat - 1, by omega⟩
          rw [e1, hm, dg, e2 m, show m = (n - 1).toNat by first | rfl | omega, hz0]
          have := dg_lt (f := mI M3 (a + 1)) (n - 1).toNat (fun j hj => by rw [e2]; exact (hd1 j (by omega)).2)
          rw [show (n - 1).toNat + 1 - 1 = (n - 1).toNat by first | rfl | omega]
          omega
        have n1 := hA0.nonneg
        have n2 := hB0.nonneg
        rcases hn1.2.2.2 with q9 | q9
        · have := hA0.ge (by omega)
          rw [← q9] at this
          omega
        · have := hB0.ge (by omega)
          rw [← q9] at this
          omega
    · have hcy : cy = 1 := by omega
      have hF3 : FI (fun x => x = a ∨ x = a + 1) M1 M3 := by rw [e3]; exact FI.ui (Or.inl rfl)
      have e1 : mI M3 a 1 = n := by rw [e3, mI_UI, if_pos ⟨rfl, rfl⟩]
      have e2 : ∀ j, mI M3 (a + 1) j = mI M1 (a + 1) j := fun j => by rw [e3, mI_UI, if_neg (by omega)]
      have hO3 : mOk M3 := by rw [e3]; exact mOk_UI hO1 ⟨by omega, by omega⟩
      have hW3 : Wh M3 a r := hW1.fi hF3 (by omega) (by omega)
      rw [hW3.2.1, hW3.2.2.2.1, e1]
      refine ⟨hW3.2.2.1, by omega, fun M4 e4 => ?_⟩
      have f1 : mI M4 a 1 = n := by rw [e4, mI_UI, if_neg (by omega)]; exact e1
      rw [f1]
      refine ⟨⟨by omega, by omega⟩, fun M5 e5 => ?_⟩
      have hF4 : FI (fun x => x = a ∨ x = a + 1) M3 M4 := by rw [e4]; exact FI.ui (Or.inr rfl)
      have hF5 : FI (fun x => x = a ∨ x = a + 1) M4 M5 := by rw [e5]; exact FI.ui (Or.inl rfl)
      have hF : FI (fun x => x = a ∨ x = a + 1) M1 M5 := (hF3.trans hF4).trans hF5
      have g1 : mI M5 a 1 = n + 1 := by rw [e5, mI_UI, if_pos ⟨rfl, rfl⟩]
      have g2 : ∀ j, mI M5 (a + 1) j = if j = n.toNat then cy else mI M1 (a + 1) j := fun j => by
        rw [e5, mI_UI, if_neg (by omega), e4, mI_UI]
        by_cases z : j = n.toNat
        · rw [if_pos ⟨rfl, z⟩, if_pos z]
        · rw [if_neg (fun w => z w.2), if_neg z, e2]
      have hO4 : mOk M4 := by rw [e4]; exact mOk_UI hO3 ⟨by omega, by omega⟩
      refine ⟨by rw [e5]; exact mOk_UI hO4 ⟨by omega, by omega⟩, hF1'.trans hF, ⟨hW1.fi hF (by omega) (by omega), fun j hj => ?_, fun z => ?_⟩, ?_⟩
      · rw [g2]
        split
        · omega
        · exact hd1 j (by omega)
      · rw [g1, g2, if_pos (by omega)]
        omega
      · unfold wv
        rw [g1, show (n + 1).toNat = n.toNat + 1 by first | rfl | omega, dg, g2, if_pos rfl, dg_congr (g := mI M1 (a + 1)) _ (fun j hj => by rw [g2, if_neg (by omega)])]
        rw [hi, dg_wg w6 (by omega), dg_wg v6 (by omega)] at hv1
        unfold wv at hv1
        omega
  | succ k ih =>
    intro i cy M1 h0 hk hc0 hc1 hO1 hF1 hd1 he1 hv1
    have hW1 : Wh M1 a r := hA0.1.out hF1 (by omega)
    have hB1 := hB0.out hF1 (by omega) (by omega)
    have ea : mI M1 a = mI M a := hF1.2.2.2.2.2.2 _ (by omega)
    have eb : mI M1 b = mI M b := hF1.2.2.2.2.2.2 _ (by omega)
    have eb1 : mI M1 (b + 1) = mI M (b + 1) := hF1.2.2.2.2.2.2 _ (by omega)
    refine k_MW_add_28 hO1 ⟨by omega, by omega⟩ ⟨by omega, by omega⟩ ⟨by omega, by omega⟩ ⟨fun hc => by omega, fun hc => ⟨hW1.1, ?_⟩⟩
    refine (s_MW_at hO1 ⟨by omega, by omega⟩ h0 hW1).mono (fun x M2 hx => ?_)
    obtain ⟨rfl, hx⟩ := hx
    have hx' : x = wg M a i.toNat := by
      rw [hx, ea, he1 _ (by omega)]
      unfold wg
      rw [show ((i.toNat : Nat) : Int) = i by first | rfl | omega]
    have hxb := hA0.wgb i.toNat
    refine ⟨⟨by omega, by omega⟩, hO1, hB1.1.1.1, ?_⟩
    refine (s_MW_at hO1 ⟨by omega, by omega⟩ h0 hB1.1.1).mono (fun z M3 hz => ?_)
    obtain ⟨rfl, hz⟩ := hz
    have hz' : z = wg M b i.toNat := by
      rw [hz, eb, eb1]
      unfold wg
      rw [show ((i.toNat : Nat) : Int) = i by first | rfl | omega]
    have hzb := hB0.wgb i.toNat
    rw [hW1.2.1, hW1.2.2.2.1]
    refine ⟨⟨by omega, by omega⟩, hO1, hW1.1, ⟨by omega, by omega⟩, hW1.2.2.1, by omega, fun M4 e4 => ?_⟩
    have hs0 : 0 ≤ x + z + cy := by omega
    have hm := Int.emod_nonneg (x + z + cy) (show (16777216 : Int) ≠ 0 by decide)
    have hm2 := Int.emod_lt_of_pos (x + z + cy) (show (0 : Int) < 16777216 by decide)
    have hdm := Int.emod_add_mul_ediv (x + z + cy) 16777216
    rw [Int.tmod_eq_emod_of_nonneg hs0] at e4
    rw [Int.tdiv_eq_ediv_of_nonneg hs0]
    have hF4 : FI (fun x => x = a + 1) M3 M4 := by rw [e4]; exact FI.ui rfl
    have g2 : ∀ j, mI M4 (a + 1) j = if j = i.toNat then (x + z + cy) % 16777216 else mI M3 (a + 1) j := fun j => by
      rw [e4, mI_UI]
      by_cases z : j = i.toNat
      · rw [if_pos ⟨rfl, z⟩, if_pos z]
      · rw [if_neg (fun w => z w.2), if_neg z]
    refine ih (i + 1) _ M4 (by omega) (by omega) (by omega) (by omega) (by rw [e4]; exact mOk_UI hO1 ⟨by omega, by omega⟩) (hF1.trans hF4) (fun j hj => ?_) (fun j hj => ?_) ?_
    · rw [g2]
      split
      · omega
      · exact hd1 j (by omega)
    · rw [g2, if_neg (by omega)]
      exact he1 j (by omega)
    · rw [show (i + 1).toNat = i.toNat + 1 by first | rfl | omega, dg, dg, dg, g2, if_pos rfl, dg_congr (g := mI M3 (a + 1)) _ (fun j hj => by rw [g2, if_neg (by omega)]), ← hx', ← hz', Int.pow_succ]
      have e9 : (x + z + cy) * 16777216 ^ i.toNat = ((x + z + cy) % 16777216 + 16777216 * ((x + z + cy) / 16777216)) * 16777216 ^ i.toNat := by rw [hdm]
      rw [Int.add_mul, Int.add_mul, Int.add_mul] at e9
      rw [show (x + z + cy) / 16777216 * (16777216 ^ i.toNat * 16777216) = 16777216 * ((x + z + cy) / 16777216) * 16777216 ^ i.toNat by rw [Int.mul_comm (16777216 ^ i.toNat), ← Int.mul_assoc, Int.mul_comm ((x + z + cy) / 16777216)]]
      omega
end
end
