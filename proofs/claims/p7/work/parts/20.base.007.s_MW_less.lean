section
section
variable {G : mG} {d a b c r r2 r3 : Nat} {M : mM}
theorem s_MW_less (hO : mOk M) (hA : W3 M a r) (hB : W3 M b r2) (hne : a ≠ b) (hle : wv M b ≤ wv M a) : Cv G y_MW_less (d + 1) [vr a, vr b] M (fun M' => mOk M' ∧ FI (fun x => x = a ∨ x = a + 1) M M' ∧ W3 M' a r ∧ wv M' a = wv M a - wv M b) := by
  have hA0 := hA
  have hB0 := hB
  have hnb : mI M b 1 ≤ mI M a 1 := by
    have h := hB.size (k := (mI M a 1).toNat) (by have := hA.lt; omega)
    have := hA.1.2.2.2.2.2.1
    omega
  obtain ⟨⟨w1, w2, w3, w4, w5, w6, w7⟩, wd, wt⟩ := hA
  obtain ⟨⟨v1, v2, v3, v4, v5, v6, v7⟩, vd, vt⟩ := hB
  have hab : a ≠ b + 1 := fun q => by rw [← q, w1] at v3; omega
  have hba : a + 1 ≠ b := fun q => by rw [q, v1] at w3; omega
  refine k_MW_less hO ?_
  suffices H : ∀ (k : Nat) (i bw : Int) (M1 : mM), 0 ≤ i → mI M a 1 - i = k → 0 ≤ bw → bw ≤ 1 → mOk M1 → FI (fun x => x = a + 1) M M1 → (∀ j : Nat, (j : Int) < i → 0 ≤ mI M1 (a + 1) j ∧ mI M1 (a + 1) j < 16777216) → (∀ j : Nat, i ≤ (j : Int) → mI M1 (a + 1) j = mI M (a + 1) j) → dg (mI M1 (a + 1)) i.toNat - bw * 16777216 ^ i.toNat = dg (mI M (a + 1)) i.toNat - dg (wg M b) i.toNat → h_MW_less_4 G d a b bw i M1 (fun M' => mOk M' ∧ FI (fun x => x = a ∨ x = a + 1) M M' ∧ W3 M' a r ∧ wv M' a = wv M a - wv M b) from
    H (mI M a 1).toNat 0 0 M (by omega) (by omega) (by omega) (by omega) hO FI.refl (fun j hj => by omega) (fun j hj => rfl) (by simp [dg])
  intro k
  induction k with
  | zero =>
    intro i bw M1 h0 hk hc0 hc1 hO1 hF1 hd1 he1 hv1
    have hW1 : Wh M1 a r := hA0.1.out hF1 (by omega)
    have ea : mI M1 a = mI M a := hF1.2.2.2.2.2.2 _ (by omega)
    refine k_MW_less_4 hO1 ⟨by omega, by omega⟩ ⟨by omega, by omega⟩ ⟨hW1.1, fun hc => ?_, fun hc => by rw [ea] at hc; omega⟩
    have hbw : bw = 0 := by
      have h1 := dg_lt (f := mI M1 (a + 1)) i.toNat (fun j hj => (hd1 j (by omega)).2)
      rw [show i.toNat = (mI M a 1).toNat by first | rfl | omega, dg_wg v6 (by omega)] at hv1
      rw [show i.toNat = (mI M a 1).toNat by first | rfl | omega] at h1
      unfold wv at hv1 hle
      by_cases z : bw = 1
      · rw [z] at hv1; omega
      · omega
    refine (s_MW_trim (mI M1 a 1).toNat M1 hO1 hW1 (fun j hj => hd1 j (by rw [ea] at hj; omega)) (by rw [ea]; omega)).mono (fun M2 h2 => ?_)
    obtain ⟨g1, g2, g3, g4, g5, g6⟩ := h2
    refine ⟨g1, g1, (hF1.mono (fun x q => Or.inr q)).trans (g2.mono (fun x q => Or.inl q)), ⟨g3, g4, g5⟩, ?_⟩
    rw [g6]
    rw [hbw, show i.toNat = (mI M a 1).toNat by first | rfl | omega, dg_wg v6 (by omega)] at hv1
    unfold wv at hv1 ⊢
    rw [ea]
    omega
  | succ k ih =>
    intro i bw M1 h0 hk hc0 hc1 hO1 hF1 hd1 he1 hv1
    have hW1 : Wh M1 a r := hA0.1.out hF1 (by omega)
    have hB1 := hB0.out hF1 (by omega) (by omega)
    have ea : mI M1 a = mI M a := hF1.2.2.2.2.2.2 _ (by omega)
    have eb : mI M1 b = mI M b := hF1.2.2.2.2.2.2 _ (by omega)
    have eb1 : mI M1 (b + 1) = mI M (b + 1) := hF1.2.2.2.2.2.2 _ (by omega)
    refine k_MW_less_4 hO1 ⟨by omega, by omega⟩ ⟨by omega, by omega⟩ ?_
    rw [hW1.2.1, hW1.2.2.2.1, ea]
    refine ⟨hW1.1, fun hc => by omega, fun hc => ⟨hW1.2.2.1, by omega, hB1.1.1.1, ?_⟩⟩
    refine (s_MW_at hO1 ⟨by omega, by omega⟩ h0 hB1.1.1).mono (fun z M3 hz => ?_)
    obtain ⟨rfl, hz⟩ := hz
    have hz' : z = wg M b i.toNat := by
      rw [hz, eb, eb1]
      unfold wg
      rw [show ((i.toNat : Nat) : Int) = i by first | rfl | omega]
    have hzb := hB0.wgb i.toNat
    have hda := wd i.toNat (by omega)
    rw [he1 i.toNat (by omega), hW1.2.1, hW1.2.2.2.1]
    refine ⟨⟨by omega, by omega⟩, hO1, ⟨by omega, by omega⟩, fun v1 e1 => ⟨hW1.1, fun v2 e2 => ?_⟩⟩
    have hv2 : 0 ≤ v2 ∧ v2 < 16777216 ∧ v1 = (if 0 ≤ mI M (a + 1) i.toNat - z - bw then 0 else 1) ∧ v2 = mI M (a + 1) i.toNat - z - bw + v1 * 16777216 ∧ 0 ≤ v1 ∧ v1 ≤ 1 := by
      refine ⟨?_, ?_, e1, ?_, ?_, ?_⟩ <;> rw [e1] at * <;> (try rw [e2]) <;> split <;> omega
    refine ⟨hW1.2.2.1, by omega, ⟨by omega, by omega⟩, fun M4 e4 => ?_⟩
    have hF4 : FI (fun x => x = a + 1) M3 M4 := by rw [e4]; exact FI.ui rfl
    have g2 : ∀ j, mI M4 (a + 1) j = if j = i.toNat then v2 else mI M3 (a + 1) j := fun j => by
      rw [e4, mI_UI]
      by_cases z : j = i.toNat
      · rw [if_pos ⟨rfl, z⟩, if_pos z]
      · rw [if_neg (fun w => z w.2), if_neg z]
    refine ih (i + 1) v1 M4 (by omega) (by omega) (by omega) (by omega) (by rw [e4]; exact mOk_UI hO1 ⟨by omega, by omega⟩) (hF1.trans hF4) (fun j hj => ?_) (fun j hj => ?_) ?_
    · rw [g2]
      split
      · omega
      · exact hd1 j (by omega)
    · rw [g2, if_neg (by omega)]
      exact he1 j (by omega)
    · rw [show (i + 1).toNat = i.toNat + 1 by first | rfl | omega, dg, dg, dg, g2, if_pos rfl, dg_congr (g := mI M3 (a + 1)) _ (fun j hj => by rw [g2, if_neg (by omega)]), ← hz', Int.pow_succ]
      have e9 : v2 * 16777216 ^ i.toNat = (mI M (a + 1) i.toNat - z - bw + v1 * 16777216) * 16777216 ^ i.toNat := by rw [hv2.2.2.2.1]
      rw [Int.add_mul, Int.sub_mul, Int.sub_mul] at e9
      rw [show v1 * (16777216 ^ i.toNat * 16777216) = v1 * 16777216 * 16777216 ^ i.toNat by rw [Int.mul_comm (16777216 ^ i.toNat), ← Int.mul_assoc]]
      omega
end
end
