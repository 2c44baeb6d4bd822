section
section
variable {G : mG} {d a b r r2 : Nat} {M : mM}
theorem s_MW_isOne (hO : mOk M) (hW : W3 M a r) : Ci G y_MW_isOne d [vr a] M (fun x M' => M' = M ∧ x = if wv M a = 1 then 1 else 0) := by
  have hsz := hW.size (k := 1)
  obtain ⟨⟨w1, w2, w3, w4, w5, w6, w7⟩, wd, wt⟩ := hW
  refine k_MW_isOne hO ?_
  rw [w2]
  refine ⟨w1, fun hc => ⟨w3, by omega, by omega⟩, fun v hv => ⟨rfl, ?_⟩⟩
  rw [hv]
  by_cases q : mI M a 1 = 1
  · have : wv M a = mI M (a + 1) 0 := by
      unfold wv
      rw [q]
      show dg _ 1 = _
      simp [dg]
    rw [this]
    simp [q]
  · rw [if_neg (fun z => q z.1), if_neg]
    intro z
    have h1 := hsz (by rw [z]; decide)
    have h2 : mI M a 1 = 0 := by omega
    unfold wv at z
    rw [h2] at z
    exact absurd z (by show ¬ (0 : Int) = 1; decide)
theorem s_MW_isOdd (hO : mOk M) (hW : W3 M a r) : Ci G y_MW_isOdd d [vr a] M (fun x M' => M' = M ∧ x = if wv M a % 2 = 1 then 1 else 0) := by
  obtain ⟨⟨w1, w2, w3, w4, w5, w6, w7⟩, wd, wt⟩ := hW
  refine k_MW_isOdd hO ?_
  rw [w2]
  refine ⟨w1, fun hc => ⟨w3, by omega, by omega⟩, fun v hv => ⟨rfl, ?_⟩⟩
  rw [hv]
  by_cases q : mI M a 1 ≤ 0
  · have : wv M a = 0 := by
      unfold wv
      rw [show (mI M a 1).toNat = 0 by first | rfl | omega]
      rfl
    rw [if_pos (Or.inl q), this]
    rfl
  · have hd := wd 0 (by omega)
    have key : ∀ n, 0 < n → dg (mI M (a + 1)) n % 2 = mI M (a + 1) 0 % 2 := by
      intro n
      induction n with
      | zero => omega
      | succ n ih =>
        intro _
        by_cases hn : n = 0
        · subst hn; simp [dg]
        · have h1 := ih (by omega)
          rw [dg]
          obtain ⟨k, rfl⟩ : ∃ k, n = k + 1 := ⟨n - 1, by omega⟩
          rw [Int.pow_succ, show mI M (a + 1) (k + 1) * (16777216 ^ k * 16777216) = 2 * (mI M (a + 1) (k + 1) * 16777216 ^ k * 8388608) by rw [← Int.mul_assoc]; omega]
          omega
    have h1 := key (mI M a 1).toNat (by omega)
    unfold wv
    rw [h1, Int.tmod_eq_emod_of_nonneg hd.1]
    by_cases z : mI M (a + 1) 0 % 2 = 1
    · rw [if_neg (by intro w; rcases w with w | w; exact q w; exact w z), if_pos z]
    · rw [if_pos (Or.inr z), if_neg z]
/-- another one's digits -/
theorem s_MW_copy (hO : mOk M) (hA : Wh M a r) (hB : W3 M b r2) (hne : a ≠ b) (hr : mI M b 1 ≤ r) : Cv G y_MW_copy d [vr a, vr b] M (fun M' => mOk M' ∧ FI (fun x => x = a ∨ x = a + 1) M M' ∧ W3 M' a r ∧ wv M' a = wv M b) := by
  have hB0 := hB
  obtain ⟨⟨v1, v2, v3, v4, v5, v6, v7⟩, vd, vt⟩ := hB
  have hA0 := hA
  obtain ⟨w1, w2, w3, w4, w5, w6, w7⟩ := hA
  have hab : a ≠ b + 1 := fun q => by rw [← q, w1] at v3; omega
  have hba : a + 1 ≠ b := fun q => by rw [q, v1] at w3; omega
  refine k_MW_copy hO ⟨v1, w1, fun M3 e3 => ?_⟩
  have hO3 : mOk M3 := by rw [e3]; exact mOk_UI hO (hO b 1).1
  have hF3 : FI (fun x => x = a ∨ x = a + 1) M M3 := by rw [e3]; exact FI.ui (Or.inl rfl)
  have hn3 : mI M3 a 1 = mI M b 1 := by rw [e3, mI_UI, if_pos ⟨rfl, rfl⟩]
  suffices H : ∀ (k : Nat) (i : Int) (M1 : mM), 0 ≤ i → i ≤ mI M b 1 → mI M b 1 - i = k → mOk M1 → FI (fun x => x = a ∨ x = a + 1) M M1 → mI M1 a 1 = mI M b 1 → (∀ j : Nat, (j : Int) < i → mI M1 (a + 1) j = mI M (b + 1) j) → h_MW_copy_10 G d a b i M1 (fun M' => mOk M' ∧ FI (fun x => x = a ∨ x = a + 1) M M' ∧ W3 M' a r ∧ wv M' a = wv M b) from
    H (mI M b 1).toNat 0 M3 (by omega) (by omega) (by omega) hO3 hF3 hn3 (fun j hj => by omega)
  intro k
  induction k with
  | zero =>
    intro i M1 h0 h1 hk hO1 hF1 hn hj
    have hW1 := hA0.fi hF1 (by omega) (by omega)
    refine k_MW_copy_10 hO1 ⟨by omega, by omega⟩ ?_
    rw [hW1.2.1, hn]
    refine ⟨hW1.1, fun hc => ⟨hO1, hF1, ⟨hW1, fun j q => ?_, fun q => ?_⟩, ?_⟩, fun hc => by omega⟩
    · rw [hn] at q
      rw [hj j (by omega)]
      exact vd j q
    · rw [hn] at q ⊢
      rw [hj _ (by omega)]
      exact vt q
    · unfold wv
      rw [hn]
      exact dg_congr _ (fun j q => hj j (by omega))
  | succ k ih =>
    intro i M1 h0 h1 hk hO1 hF1 hn hj
    have hW1 := hA0.fi hF1 (by omega) (by omega)
    have hB1 := hB0.out hF1 (by omega) (by omega)
    have eb : mI M1 (b + 1) = mI M (b + 1) := hF1.2.2.2.2.2.2 _ (by omega)
    refine k_MW_copy_10 hO1 ⟨by omega, by omega⟩ ?_
    rw [hW1.2.1, hn, hB1.1.1.2.1, hB1.1.1.2.2.2.1, hW1.2.2.2.1]
    refine ⟨hW1.1, fun hc => by omega, fun hc => ⟨hB1.1.1.1, hB1.1.1.2.2.1, by omega, hW1.2.2.1, by omega, fun M2 e2 => ?_⟩⟩
    have hF2 : FI (fun x => x = a ∨ x = a + 1) M1 M2 := by rw [e2]; exact FI.ui (Or.inr rfl)
    refine ih (i + 1) M2 (by omega) (by omega) (by omega) (by rw [e2]; exact mOk_UI hO1 (hO1 _ _).1) (hF1.trans hF2) (by rw [e2, mI_UI, if_neg (by omega)]; exact hn) (fun j q => ?_)
    rw [e2, mI_UI]
    by_cases z : j = i.toNat
    · rw [if_pos ⟨rfl, z⟩, eb, z]
    · rw [if_neg (fun w => z w.2)]
      exact hj j (by omega)
end
end
