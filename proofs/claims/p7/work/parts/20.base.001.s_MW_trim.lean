section
section
variable {G : mG} {d a b r : Nat} {M : mM}
theorem s_MW_at {i : Int} (hO : mOk M) (hi : i32 i) (h0 : 0 ≤ i) (hW : Wh M a r) : Ci G y_MW_at d [vr a, vi i] M (fun x M' => M' = M ∧ x = if mI M a 1 ≤ i then 0 else mI M (a + 1) i.toNat) := by
  obtain ⟨w1, w2, w3, w4, w5, w6, w7⟩ := hW
  refine k_MW_at hO hi ?_
  rw [w2]
  refine ⟨w1, fun hc => ⟨w3, by omega⟩, fun v hv => ⟨rfl, hv⟩⟩
theorem s_MW_isZero (hO : mOk M) (hW : Wh M a r) : Ci G y_MW_isZero d [vr a] M (fun x M' => M' = M ∧ x = if mI M a 1 = 0 then 1 else 0) := by
  refine k_MW_isZero hO ⟨hW.1, fun v hv => ⟨rfl, hv⟩⟩
theorem s_MW_trim (n : Nat) : ∀ (M : mM), mOk M → Wh M a r → WD M a → mI M a 1 = n → Cv G y_MW_trim d [vr a] M (fun M' => mOk M' ∧ FI (fun x => x = a) M M' ∧ Wh M' a r ∧ WD M' a ∧ WT M' a ∧ wv M' a = wv M a) := by
  intro M hO hW hD hn
  refine k_MW_trim hO ?_
  suffices H : ∀ (n : Nat) (M1 : mM), mOk M1 → Wh M1 a r → WD M1 a → mI M1 a 1 = n → FI (fun x => x = a) M M1 → wv M1 a = wv M a → h_MW_trim_0 G d a M1 (fun M' => mOk M' ∧ FI (fun x => x = a) M M' ∧ Wh M' a r ∧ WD M' a ∧ WT M' a ∧ wv M' a = wv M a) from H n M hO hW hD hn FI.refl rfl
  intro n
  induction n with
  | zero =>
    intro M1 hO hW hD hn hF hv
    obtain ⟨w1, w2, w3, w4, w5, w6, w7⟩ := hW
    refine k_MW_trim_0 hO ?_
    rw [w2]
    refine ⟨w1, fun hc => by omega, fun hc => ⟨hO, hF, ⟨w1, w2, w3, w4, w5, w6, w7⟩, hD, fun q => by omega, hv⟩, fun hc => absurd (Or.inl (by omega)) hc⟩
  | succ n ih =>
    intro M1 hO hW hD hn hF hv
    obtain ⟨w1, w2, w3, w4, w5, w6, w7⟩ := hW
    refine k_MW_trim_0 hO ?_
    rw [w2]
    refine ⟨w1, fun hc => ⟨w3, by omega⟩, fun hc => ?_, fun hc => ?_⟩
    · refine ⟨hO, hF, ⟨w1, w2, w3, w4, w5, w6, w7⟩, hD, fun q => ?_, hv⟩
      rcases hc with hc | hc
      · omega
      · exact hc
    · refine ⟨⟨by omega, by omega⟩, fun M2 e2 => ?_⟩
      have hz : mI M1 (a + 1) (mI M1 a 1 - 1).toNat = 0 := Classical.not_not.mp (fun q => hc (Or.inr q))
      have e1 : mI M2 a 1 = n := by rw [e2, mI_UI, if_pos ⟨rfl, rfl⟩]; omega
      have e3 : ∀ j, mI M2 (a + 1) j = mI M1 (a + 1) j := fun j => by rw [e2, mI_UI, if_neg (by omega)]
      have hO2 : mOk M2 := by rw [e2]; exact mOk_UI hO ⟨by omega, by omega⟩
      have hF2 : FI (fun x => x = a) M1 M2 := by rw [e2]; exact FI.ui rfl
      refine ih M2 hO2 ⟨by rw [hF2.1]; exact w1, by rw [hF2.2.2.1]; exact w2, by rw [hF2.1]; exact w3, by rw [hF2.2.1]; exact w4, w5, by omega, by omega⟩ (fun j hj => by rw [e3]; exact hD j (by omega)) e1 (hF.trans hF2) ?_
      rw [← hv]
      unfold wv
      rw [e1, hn, dg_congr _ (fun j _ => e3 j)]
      show dg _ n = dg _ (n + 1)
      rw [dg, show (n : Nat) = (mI M1 a 1 - 1).toNat by first | rfl | omega, hz]
      omega
end
end
