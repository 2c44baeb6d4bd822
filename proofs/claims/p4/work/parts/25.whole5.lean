/-! The reference's whole numbers: halves, bits, tenths, small ones. -/
section W7
variable {G : mG} {d a b c r r2 r3 : Nat} {M : mM}
theorem s_MW_halve (hO : mOk M) (hA : W3 M a r) : Cv G y_MW_halve (d + 1) [vr a] M (fun M' => mOk M' ∧ FI (fun x => x = a ∨ x = a + 1) M M' ∧ W3 M' a r ∧ wv M' a = wv M a / 2) := by
  have hA0 := hA
  obtain ⟨⟨w1, w2, w3, w4, w5, w6, w7⟩, wd, wt⟩ := hA
  refine k_MW_halve hO ?_
  suffices H : ∀ (k : Nat) (i : Int) (M1 : mM), 0 ≤ i → mI M a 1 - i = k → mOk M1 → FI (fun x => x = a + 1) M M1 → (∀ j : Nat, (j : Int) < i → 0 ≤ mI M1 (a + 1) j ∧ mI M1 (a + 1) j < 16777216) → (∀ j : Nat, i ≤ (j : Int) → mI M1 (a + 1) j = mI M (a + 1) j) → 2 * dg (mI M1 (a + 1)) i.toNat + (wg M a 0) % 2 = dg (mI M (a + 1)) i.toNat + (if i = 0 then wg M a 0 % 2 else (wg M a i.toNat % 2) * 16777216 ^ i.toNat) → h_MW_halve_2 G d a i M1 (fun M' => mOk M' ∧ FI (fun x => x = a ∨ x = a + 1) M M' ∧ W3 M' a r ∧ wv M' a = wv M a / 2) from
    H (mI M a 1).toNat 0 M (by omega) (by omega) hO FI.refl (fun j hj => by omega) (fun j hj => rfl) (by simp [dg])
  intro k
  induction k with
  | zero =>
    intro i M1 h0 hk hO1 hF1 hd1 he1 hv1
    have hW1 : Wh M1 a r := hA0.1.out hF1 (by omega)
    have ea : mI M1 a = mI M a := hF1.2.2.2.2.2.2 _ (by omega)
    refine k_MW_halve_2 hO1 ⟨by omega, by omega⟩ ⟨hW1.1, fun hc => ?_, fun hc => by rw [ea] at hc; omega⟩
    refine (s_MW_trim (mI M1 a 1).toNat M1 hO1 hW1 (fun j hj => hd1 j (by rw [ea] at hj; omega)) (by rw [ea]; omega)).mono (fun M2 h2 => ?_)
    obtain ⟨g1, g2, g3, g4, g5, g6⟩ := h2
    refine ⟨g1, g1, (hF1.mono (fun x q => Or.inr q)).trans (g2.mono (fun x q => Or.inl q)), ⟨g3, g4, g5⟩, ?_⟩
    rw [g6]
    have hw : wg M a i.toNat = 0 := by unfold wg; rw [if_pos (by omega)]
    have hii : i.toNat = (mI M a 1).toNat := by omega
    have hb := hA0.wgb 0
    have hvv : 2 * wv M1 a + wg M a 0 % 2 = wv M a := by
      unfold wv
      rw [ea, ← hii, hv1]
      by_cases z : i = 0
      · rw [if_pos z]
        rw [z] at hw
        rw [show wg M a 0 = 0 from hw]
        simp
      · rw [if_neg z, hw]
        omega
    omega
  | succ k ih =>
    intro i M1 h0 hk hO1 hF1 hd1 he1 hv1
    have hW1 : Wh M1 a r := hA0.1.out hF1 (by omega)
    have ea : mI M1 a = mI M a := hF1.2.2.2.2.2.2 _ (by omega)
    have hda := wd i.toNat (by omega)
    have hb1 := hA0.wgb (i.toNat + 1)
    refine k_MW_halve_2 hO1 ⟨by omega, by omega⟩ ?_
    rw [hW1.2.1, hW1.2.2.2.1, ea, he1 i.toNat (by omega), he1 (i + 1).toNat (by omega)]
    refine ⟨hW1.1, fun hc => by omega, fun hc => ⟨hW1.2.2.1, by omega, ⟨by omega, by omega⟩, fun q => by omega, fun v hv => ?_⟩⟩
    have hv' : v = wg M a (i.toNat + 1) % 2 * 8388608 := by
      rw [hv]
      unfold wg
      by_cases z : mI M a 1 ≤ i + 1
      · rw [if_pos z, if_pos (by omega)]; rfl
      · rw [if_neg z, if_neg (by omega), show (i + 1).toNat = i.toNat + 1 by omega, Int.tmod_eq_emod_of_nonneg (wd _ (by omega)).1]
    rw [Int.tdiv_eq_ediv_of_nonneg hda.1]
    refine ⟨by omega, ⟨by omega, by omega⟩, fun M4 e4 => ?_⟩
    have hF4 : FI (fun x => x = a + 1) M1 M4 := by rw [e4]; exact FI.ui rfl
    have g2 : ∀ j, mI M4 (a + 1) j = if j = i.toNat then mI M (a + 1) i.toNat / 2 + v else mI M1 (a + 1) j := fun j => by
      rw [e4, mI_UI]
      by_cases z : j = i.toNat
      · rw [if_pos ⟨rfl, z⟩, if_pos z]
      · rw [if_neg (fun w => z w.2), if_neg z]
    refine ih (i + 1) M4 (by omega) (by omega) (by rw [e4]; exact mOk_UI hO1 ⟨by omega, by omega⟩) (hF1.trans hF4) (fun j hj => ?_) (fun j hj => ?_) ?_
    · rw [g2]
      split
      · omega
      · exact hd1 j (by omega)
    · rw [g2, if_neg (by omega)]
      exact he1 j (by omega)
    · have hwi : wg M a i.toNat = mI M (a + 1) i.toNat := by unfold wg; rw [if_neg (by omega)]
      rw [if_neg (by omega), show (i + 1).toNat = i.toNat + 1 by omega, dg, dg, g2, if_pos rfl, dg_congr (g := mI M1 (a + 1)) _ (fun j hj => by rw [g2, if_neg (by omega)]), Int.pow_succ]
      have e5 : wg M a (i.toNat + 1) % 2 * (16777216 ^ i.toNat * 16777216) = 2 * (v * 16777216 ^ i.toNat) := by
        rw [hv', Int.mul_comm (16777216 ^ i.toNat), ← Int.mul_assoc, ← Int.mul_assoc]
        congr 1
        omega
      have e6 : mI M (a + 1) i.toNat * 16777216 ^ i.toNat = (2 * (mI M (a + 1) i.toNat / 2) + mI M (a + 1) i.toNat % 2) * 16777216 ^ i.toNat := by congr 1; omega
      rw [Int.add_mul, Int.mul_assoc] at e6
      rw [e5, Int.add_mul]
      by_cases z : i = 0
      · rw [if_pos z] at hv1
        subst z
        simp [dg] at e6 ⊢
        have hwi0 : wg M a 0 = mI M (a + 1) 0 := hwi
        rw [hwi0]
        omega
      · rw [if_neg z, hwi] at hv1
        omega
theorem s_MW_tenth (hO : mOk M) (hA : W3 M a r) : Ci G y_MW_tenth (d + 1) [vr a] M (fun x M' => mOk M' ∧ FI (fun x => x = a ∨ x = a + 1) M M' ∧ W3 M' a r ∧ wv M' a = wv M a / 10 ∧ x = wv M a % 10) := by
  have hA0 := hA
  obtain ⟨⟨w1, w2, w3, w4, w5, w6, w7⟩, wd, wt⟩ := hA
  refine k_MW_tenth hO ⟨w1, ?_⟩
  suffices H : ∀ (k : Nat) (i rs : Int) (M1 : mM), i + 1 = k → i < mI M a 1 → 0 ≤ rs → rs < 10 → mOk M1 → FI (fun x => x = a + 1) M M1 → (∀ j : Nat, i < (j : Int) → (j : Int) < mI M a 1 → 0 ≤ mI M1 (a + 1) j ∧ mI M1 (a + 1) j < 16777216) → (∀ j : Nat, (j : Int) ≤ i → mI M1 (a + 1) j = mI M (a + 1) j) → 10 * (dg (mI M1 (a + 1)) (mI M a 1).toNat - dg (mI M1 (a + 1)) k) + rs * 16777216 ^ k = dg (mI M (a + 1)) (mI M a 1).toNat - dg (mI M (a + 1)) k → h_MW_tenth_9 G d a rs i M1 (fun x M' => mOk M' ∧ FI (fun x => x = a ∨ x = a + 1) M M' ∧ W3 M' a r ∧ wv M' a = wv M a / 10 ∧ x = wv M a % 10) from
    H (mI M a 1).toNat (mI M a 1 - 1) 0 M (by omega) (by omega) (by omega) (by omega) hO FI.refl (fun j z1 z2 => by omega) (fun j hj => rfl) (by simp)
  intro k
  induction k with
  | zero =>
    intro i rs M1 hk hi c0 c1 hO1 hF1 hd1 he1 hv1
    have hW1 : Wh M1 a r := hA0.1.out hF1 (by omega)
    have ea : mI M1 a = mI M a := hF1.2.2.2.2.2.2 _ (by omega)
    refine k_MW_tenth_9 hO1 ⟨by omega, by omega⟩ ⟨by omega, by omega⟩ ⟨fun hc => ⟨hW1.1, ?_⟩, fun hc => by omega⟩
    refine (s_MW_trim (mI M1 a 1).toNat M1 hO1 hW1 (fun j hj => hd1 j (by omega) (by rw [ea] at hj; omega)) (by rw [ea]; omega)).mono (fun M2 h2 => ?_)
    obtain ⟨g1, g2, g3, g4, g5, g6⟩ := h2
    have hvv : 10 * wv M1 a + rs = wv M a := by
      unfold wv
      rw [ea]
      simp [dg] at hv1
      omega
    refine ⟨g1, g1, (hF1.mono (fun x q => Or.inr q)).trans (g2.mono (fun x q => Or.inl q)), ⟨g3, g4, g5⟩, by omega, by omega⟩
  | succ k ih =>
    intro i rs M1 hk hi c0 c1 hO1 hF1 hd1 he1 hv1
    have hW1 : Wh M1 a r := hA0.1.out hF1 (by omega)
    have ea : mI M1 a = mI M a := hF1.2.2.2.2.2.2 _ (by omega)
    have hda := wd i.toNat (by omega)
    refine k_MW_tenth_9 hO1 ⟨by omega, by omega⟩ ⟨by omega, by omega⟩ ?_
    rw [hW1.2.1, hW1.2.2.2.1, he1 i.toNat (by omega)]
    generalize hs : rs * 16777216 + mI M (a + 1) i.toNat = s
    have hs0 : 0 ≤ s := by omega
    rw [Int.tmod_eq_emod_of_nonneg hs0, Int.tdiv_eq_ediv_of_nonneg hs0]
    refine ⟨fun hc => by omega, fun hc => ⟨hW1.1, hW1.2.2.1, by omega, ⟨by omega, by omega⟩, by omega, fun M4 e4 => ?_⟩⟩
    have hF4 : FI (fun x => x = a + 1) M1 M4 := by rw [e4]; exact FI.ui rfl
    have hik : i.toNat = k := by omega
    have g2 : ∀ j, mI M4 (a + 1) j = if j = k then s / 10 else mI M1 (a + 1) j := fun j => by
      rw [e4, mI_UI, hik]
      by_cases z : j = k
      · rw [if_pos ⟨rfl, z⟩, if_pos z]
      · rw [if_neg (fun w => z w.2), if_neg z]
    refine ih (i + -1) _ M4 (by omega) (by omega) (by omega) (by omega) (by rw [e4]; exact mOk_UI hO1 ⟨by omega, by omega⟩) (hF1.trans hF4) (fun j z1 z2 => ?_) (fun j hj => ?_) ?_
    · rw [g2]
      split
      · omega
      · exact hd1 j (by omega) z2
    · rw [g2, if_neg (by omega)]
      exact he1 j (by omega)
    · obtain ⟨m, hm⟩ : ∃ m, (mI M a 1).toNat = k + 1 + m := ⟨(mI M a 1).toNat - (k + 1), by omega⟩
      have e5 : dg (mI M4 (a + 1)) k = dg (mI M1 (a + 1)) k := dg_congr _ (fun j hj => by rw [g2, if_neg (by omega)])
      have e6 : dg (mI M4 (a + 1)) (mI M a 1).toNat = dg (mI M1 (a + 1)) k + s / 10 * 16777216 ^ k + (dg (mI M1 (a + 1)) (mI M a 1).toNat - dg (mI M1 (a + 1)) (k + 1)) := by
        rw [hm, dg_split, dg_split (f := mI M1 (a + 1)), dg_congr (f := fun j => mI M4 (a + 1) (k + 1 + j)) (g := fun j => mI M1 (a + 1) (k + 1 + j)) _ (fun j hj => by show mI M4 (a + 1) (k + 1 + j) = _; rw [g2, if_neg (by omega)]), dg_succ (mI M4 (a + 1)) k, e5, g2, if_pos rfl]
        omega
      rw [dg_succ (mI M (a + 1)) k, dg_succ (mI M1 (a + 1)) k, Int.pow_succ] at hv1
      rw [e6, e5, dg_succ (mI M1 (a + 1)) k]
      have e7 : s * 16777216 ^ k = (10 * (s / 10) + s % 10) * 16777216 ^ k := by congr 1; omega
      have e8 : s * 16777216 ^ k = rs * 16777216 * 16777216 ^ k + mI M (a + 1) k * 16777216 ^ k := by rw [← hs, Int.add_mul, hik]
      rw [Int.add_mul, Int.mul_assoc] at e7
      rw [show rs * (16777216 ^ k * 16777216) = rs * 16777216 * 16777216 ^ k by rw [Int.mul_comm (16777216 ^ k), ← Int.mul_assoc]] at hv1
      omega
theorem s_MW_set {x : Int} (h0 : 0 ≤ x) (h1 : x < 4722366482869645213696) (hx : i64 x) (hO : mOk M) (hA : Wh M a r) (hr : 3 ≤ r) : Cv G y_MW_set d [vr a, vl x] M (fun M' => mOk M' ∧ FI (fun x => x = a ∨ x = a + 1) M M' ∧ W3 M' a r ∧ wv M' a = x) := by
  have hA0 := hA
  obtain ⟨w1, w2, w3, w4, w5, w6, w7⟩ := hA
  refine k_MW_set hO hx ⟨w1, fun M0 e0 => ?_⟩
  have hF0 : FI (fun x => x = a ∨ x = a + 1) M M0 := by rw [e0]; exact FI.ui (Or.inl rfl)
  suffices H : ∀ (k : Nat) (y : Int) (M1 : mM), 0 ≤ y → i64 y → y < 16777216 ^ k → mI M1 a 1 + k = 3 → 0 ≤ mI M1 a 1 → mOk M1 → FI (fun x => x = a ∨ x = a + 1) M M1 → WD M1 a → (y = 0 → WT M1 a) → wv M1 a + y * 16777216 ^ (mI M1 a 1).toNat = x → h_MW_set_7 G d a y M1 (fun M' => mOk M' ∧ FI (fun x => x = a ∨ x = a + 1) M M' ∧ W3 M' a r ∧ wv M' a = x) by
    have e1 : mI M0 a 1 = 0 := by rw [e0, mI_UI, if_pos ⟨rfl, rfl⟩]
    refine H 3 x M0 h0 hx (by show x < 4722366482869645213696; exact h1) (by omega) (by omega) (by rw [e0]; exact mOk_UI hO ⟨by omega, by omega⟩) hF0 (fun j hj => by omega) (fun _ q => by omega) ?_
    unfold wv
    rw [e1]
    simp [dg]
  intro k
  induction k with
  | zero =>
    intro y M1 y0 yi yk hn hn0 hO1 hF1 hd1 ht1 hv1
    have hy : y = 0 := by
      have : y < 1 := yk
      omega
    have hW1 : Wh M1 a r := hA0.fi hF1 (by omega) (by omega)
    refine k_MW_set_7 hO1 yi ⟨fun hc => ⟨hO1, hF1, ⟨hW1, hd1, ht1 hy⟩, by rw [hy] at hv1; omega⟩, fun hc => ?_⟩
    exfalso
    apply hc
    unfold cmpL
    rw [if_neg (by omega), if_pos hy]
    omega
  | succ k ih =>
    intro y M1 y0 yi yk hn hn0 hO1 hF1 hd1 ht1 hv1
    have hW1 : Wh M1 a r := hA0.fi hF1 (by omega) (by omega)
    refine k_MW_set_7 hO1 yi ?_
    rw [hW1.2.1, hW1.2.2.2.1]
    have hcm : cmpL y 0 ≤ 0 ↔ y = 0 := by
      unfold cmpL
      by_cases q : y = 0
      · rw [if_neg (by omega), if_pos q]; omega
      · rw [if_pos (by omega)]; omega
    rw [hcm, l_and24 y0 yi.2, show shrL y 24 = y / 2 ^ 24 from l_shr 24 (by decide) yi]
    refine ⟨fun hc => ⟨hO1, hF1, ⟨hW1, hd1, ht1 hc⟩, by rw [hc] at hv1; omega⟩, fun hc => ⟨hW1.1, hW1.2.2.1, by omega, ⟨by omega, by omega⟩, fun M2 e2 => ?_⟩⟩
    have f1 : mI M2 a 1 = mI M1 a 1 := by rw [e2, mI_UI, if_neg (by omega)]
    rw [f1]
    refine ⟨⟨by omega, by omega⟩, fun M3 e3 => ?_⟩
    have hO2 : mOk M2 := by rw [e2]; exact mOk_UI hO1 ⟨by omega, by omega⟩
    have hF2 : FI (fun x => x = a ∨ x = a + 1) M1 M2 := by rw [e2]; exact FI.ui (Or.inr rfl)
    have hF3 : FI (fun x => x = a ∨ x = a + 1) M2 M3 := by rw [e3]; exact FI.ui (Or.inl rfl)
    have g1 : mI M3 a 1 = mI M1 a 1 + 1 := by rw [e3, mI_UI, if_pos ⟨rfl, rfl⟩]
    have g2 : ∀ j, mI M3 (a + 1) j = if j = (mI M1 a 1).toNat then y % 16777216 else mI M1 (a + 1) j := fun j => by
      rw [e3, mI_UI, if_neg (by omega), e2, mI_UI]
      by_cases z : j = (mI M1 a 1).toNat
      · rw [if_pos ⟨rfl, z⟩, if_pos z]
      · rw [if_neg (fun w => z w.2), if_neg z]
    rw [Int.pow_succ] at yk
    have hB := B_pos k
    have hyk : y / 2 ^ 24 < 16777216 ^ k := by
      have : y / 16777216 < 16777216 ^ k := Int.ediv_lt_of_lt_mul (by decide) (by omega)
      exact this
    have h24 : (2 : Int) ^ 24 = 16777216 := by decide
    rw [h24] at hyk ⊢
    refine ih (y / 16777216) M3 (by omega) (by have := yi.2; unfold i64; omega) hyk (by omega) (by omega) (by rw [e3]; exact mOk_UI hO2 ⟨by omega, by omega⟩) ((hF1.trans hF2).trans hF3) (fun j hj => ?_) (fun hy z => ?_) ?_
    · rw [g2]
      split
      · omega
      · exact hd1 j (by omega)
    · rw [g1, g2, if_pos (by omega)]
      omega
    · unfold wv at hv1 ⊢
      rw [g1, show (mI M1 a 1 + 1).toNat = (mI M1 a 1).toNat + 1 by omega, dg, g2, if_pos rfl, dg_congr (g := mI M1 (a + 1)) _ (fun j hj => by rw [g2, if_neg (by omega)]), Int.pow_succ]
      have e7 : y * 16777216 ^ (mI M1 a 1).toNat = (y % 16777216 + 16777216 * (y / 16777216)) * 16777216 ^ (mI M1 a 1).toNat := by congr 1; omega
      rw [Int.add_mul] at e7
      rw [show y / 16777216 * (16777216 ^ (mI M1 a 1).toNat * 16777216) = 16777216 * (y / 16777216) * 16777216 ^ (mI M1 a 1).toNat by rw [Int.mul_comm (16777216 ^ (mI M1 a 1).toNat), ← Int.mul_assoc, Int.mul_comm (y / 16777216)]]
      omega
end W7
