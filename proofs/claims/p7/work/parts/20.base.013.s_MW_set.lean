section
section
variable {G : mG} {d a b c r r2 r3 : Nat} {M : mM}
theorem s_MW_set {x : Int} (h0 : 0 ≤ x) (h1 : x < 4722366482869645213696) (hx : i64 x) (hO : mOk M) (hA : Wh M a r) (hr : 3 ≤ r) : Cv G y_MW_set d [vr a, vl x] M (fun M' => mOk M' ∧ FI (fun x => x = a ∨ x = a + 1) M M' ∧ W3 M' a r ∧ wv M' a = x) := by
  have hA0 := hA
  obtain ⟨w1, w2, w3, w4, w5, w6, w7⟩ := hA
  refine k_MW_set hO hx ⟨w1, fun M0 e0 => ?_⟩
  have hF0 : FI (fun x => x = a ∨ x = a + 1) M M0 := by rw [e0]; exact FI.ui (Or.inl rfl)
  suffices H : ∀ (k : Nat) (y : Int) (M1 : mM), 0 ≤ y → i64 y → y < 16777216 ^ k → mI M1 a 1 + k = 3 → 0 ≤ mI M1 a 1 → mOk M1 → FI (fun x => x = a ∨ x = a + 1) M M1 → WD M1 a → (y = 0 → WT M1 a) → wv M1 a + y * 16777216 ^ (mI M1 a 1).toNat = x → h_MW_set_7 G d a y M1 (fun M' => mOk M' ∧ FI (fun x => x = a ∨ x = a + 1) M M' ∧ W3 M' a r ∧ wv M' a = x) by
    have e1 : mI M0 a 1 = 0 := by rw [e0, mI_UI, if_pos ⟨rfl, rfl⟩]
    refine H 3 x M0 h0 hx (by show x < 4722366482869645213696; exact h1) (by omega) (by omega) (by rw [e0]; exact mOk_UI hO ⟨by omega, by omega⟩) hF0 (fun j hj => by omega) (fun _ q => by omega) ?_
    unfold wv
    rw [e1]
    simp [dg]
  intro k
  induction k with
  | zero =>
    intro y M1 y0 yi yk hn hn0 hO1 hF1 hd1 ht1 hv1
    have hy : y = 0 := by
      have : y < 1 := yk
      omega
    have hW1 : Wh M1 a r := hA0.fi hF1 (by omega) (by omega)
    refine k_MW_set_7 hO1 yi ⟨fun hc => ⟨hO1, hF1, ⟨hW1, hd1, ht1 hy⟩, by rw [hy] at hv1; omega⟩, fun hc => ?_⟩
    exfalso
    apply hc
    unfold cmpL
    rw [if_neg (by omega), if_pos hy]
    omega
  | succ k ih =>
    intro y M1 y0 yi yk hn hn0 hO1 hF1 hd1 ht1 hv1
    have hW1 : Wh M1 a r := hA0.fi hF1 (by omega) (by omega)
    refine k_MW_set_7 hO1 yi ?_
    rw [hW1.2.1, hW1.2.2.2.1]
    have hcm : cmpL y 0 ≤ 0 ↔ y = 0 := by
      unfold cmpL
      by_cases q : y = 0
      · rw [if_neg (by omega), if_pos q]; omega
      · rw [if_pos (by omega)]; omega
    rw [hcm, l_and24 y0 yi.2, show shrL y 24 = y / 2 ^ 24 from l_shr 24 (by decide) yi]
    refine ⟨fun hc => ⟨hO1, hF1, ⟨hW1, hd1, ht1 hc⟩, by rw [hc] at hv1; omega⟩, fun hc => ⟨hW1.1, hW1.2.2.1, by omega, ⟨by omega, by omega⟩, fun M2 e2 => ?_⟩⟩
    have f1 : mI M2 a 1 = mI M1 a 1 := by rw [e2, mI_UI, if_neg (by omega)]
    rw [f1]
    refine ⟨⟨by omega, by omega⟩, fun M3 e3 => ?_⟩
    have hO2 : mOk M2 := by rw [e2]; exact mOk_UI hO1 ⟨by omega, by omega⟩
    have hF2 : FI (fun x => x = a ∨ x = a + 1) M1 M2 := by rw [e2]; exact FI.ui (Or.inr rfl)
    have hF3 : FI (fun x => x = a ∨ x = a + 1) M2 M3 := by rw [e3]; exact FI.ui (Or.inl rfl)
    have g1 : mI M3 a 1 = mI M1 a 1 + 1 := by rw [e3, mI_UI, if_pos ⟨rfl, rfl⟩]
    have g2 : ∀ j, mI M3 (a + 1) j = if j = (mI M1 a 1).toNat then y % 16777216 else mI M1 (a + 1) j := fun j => by
      rw [e3, mI_UI, if_neg (by omega), e2, mI_UI]
      by_cases z : j = (mI M1 a 1).toNat
      · rw [if_pos ⟨rfl, z⟩, if_pos z]
      · rw [if_neg (fun w => z w.2), if_neg z]
    rw [Int.pow_succ] at yk
    have hB := B_pos k
    have hyk : y / 2 ^ 24 < 16777216 ^ k := by
      have : y / 16777216 < 16777216 ^ k := Int.ediv_lt_of_lt_mul (by decide) (by omega)
      exact this
    have h24 : (2 : Int) ^ 24 = 16777216 := by decide
    rw [h24] at hyk ⊢
    refine ih (y / 16777216) M3 (by omega) (by have := yi.2; unfold i64; omega) hyk (by omega) (by omega) (by rw [e3]; exact mOk_UI hO2 ⟨by omega, by omega⟩) ((hF1.trans hF2).trans hF3) (fun j hj => ?_) (fun hy z => ?_) ?_
    · rw [g2]
      split
      · omega
      · exact hd1 j (by omega)
    · rw [g1, g2, if_pos (by omega)]
      omega
    · unfold wv at hv1 ⊢
      rw [g1, show (mI M1 a 1 + 1).toNat = (mI M1 a 1).toNat + 1 by first | rfl | omega, dg, g2, if_pos rfl, dg_congr (g := mI M1 (a + 1)) _ (fun j hj => by rw [g2, if_neg (by omega)]), Int.pow_succ]
      have e7 : y * 16777216 ^ (mI M1 a 1).toNat = (y % 16777216 + 16777216 * (y / 16777216)) * 16777216 ^ (mI M1 a 1).toNat := by congr 1; omega
      rw [Int.add_mul] at e7
      rw [show y / 16777216 * (16777216 ^ (mI M1 a 1).toNat * 16777216) = 16777216 * (y / 16777216) * 16777216 ^ (mI M1 a 1).toNat by rw [Int.mul_comm (16777216 ^ (mI M1 a 1).toNat), ← Int.mul_assoc, Int.mul_comm (y / 16777216)]]
      omega
end
end
