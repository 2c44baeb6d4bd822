section
section
variable {G : mG} {d a b c r r2 r3 : Nat} {M : mM}
theorem s_MW_tenth (hO : mOk M) (hA : W3 M a r) : Ci G y_MW_tenth (d + 1) [vr a] M (fun x M' => mOk M' ∧ FI (fun x => x = a ∨ x = a + 1) M M' ∧ W3 M' a r ∧ wv M' a = wv M a / 10 ∧ x = wv M a % 10) := by
  have hA0 := hA
  obtain ⟨⟨w1, w2, w3, w4, w5, w6, w7⟩, wd, wt⟩ := hA
  refine k_MW_tenth hO ⟨w1, ?_⟩
  suffices H : ∀ (k : Nat) (i rs : Int) (M1 : mM), i + 1 = k → i < mI M a 1 → 0 ≤ rs → rs < 10 → mOk M1 → FI (fun x => x = a + 1) M M1 → (∀ j : Nat, i < (j : Int) → (j : Int) < mI M a 1 → 0 ≤ mI M1 (a + 1) j ∧ mI M1 (a + 1) j < 16777216) → (∀ j : Nat, (j : Int) ≤ i → mI M1 (a + 1) j = mI M (a + 1) j) → 10 * (dg (mI M1 (a + 1)) (mI M a 1).toNat - dg (mI M1 (a + 1)) k) + rs * 16777216 ^ k = dg (mI M (a + 1)) (mI M a 1).toNat - dg (mI M (a + 1)) k → h_MW_tenth_9 G d a rs i M1 (fun x M' => mOk M' ∧ FI (fun x => x = a ∨ x = a + 1) M M' ∧ W3 M' a r ∧ wv M' a = wv M a / 10 ∧ x = wv M a % 10) from
    H (mI M a 1).toNat (mI M a 1 - 1) 0 M (by omega) (by omega) (by omega) (by omega) hO FI.refl (fun j z1 z2 => by omega) (fun j hj => rfl) (by simp)
  intro k
  induction k with
  | zero =>
    intro i rs M1 hk hi c0 c1 hO1 hF1 hd1 he1 hv1
    have hW1 : Wh M1 a r := hA0.1.out hF1 (by omega)
    have ea : mI M1 a = mI M a := hF1.2.2.2.2.2.2 _ (by omega)
    refine k_MW_tenth_9 hO1 ⟨by omega, by omega⟩ ⟨by omega, by omega⟩ ⟨fun hc => ⟨hW1.1, ?_⟩, fun hc => by omega⟩
    refine (s_MW_trim (mI M1 a 1).toNat M1 hO1 hW1 (fun j hj => hd1 j (by omega) (by rw [ea] at hj; omega)) (by rw [ea]; omega)).mono (fun M2 h2 => ?_)
    obtain ⟨g1, g2, g3, g4, g5, g6⟩ := h2
    have hvv : 10 * wv M1 a + rs = wv M a := by
      unfold wv
      rw [ea]
      simp [dg] at hv1
      omega
    refine ⟨g1, g1, (hF1.mono (fun x q => Or.inr q)).trans (g2.mono (fun x q => Or.inl q)), ⟨g3, g4, g5⟩, by omega, by omega⟩
  | succ k ih =>
    intro i rs M1 hk hi c0 c1 hO1 hF1 hd1 he1 hv1
    have hW1 : Wh M1 a r := hA0.1.out hF1 (by omega)
    have ea : mI M1 a = mI M a := hF1.2.2.2.2.2.2 _ (by omega)
    have hda := wd i.toNat (by omega)
    refine k_MW_tenth_9 hO1 ⟨by omega, by omega⟩ ⟨by omega, by omega⟩ ?_
    rw [hW1.2.1, hW1.2.2.2.1, he1 i.toNat (by omega)]
    generalize hs : rs * 16777216 + mI M (a + 1) i.toNat = s
    have hs0 : 0 ≤ s := by omega
    rw [Int.tmod_eq_emod_of_nonneg hs0, Int.tdiv_eq_ediv_of_nonneg hs0]
    refine ⟨fun hc => by omega, fun hc => ⟨hW1.1, hW1.2.2.1, by omega, ⟨by omega, by omega⟩, by omega, fun M4 e4 => ?_⟩⟩
    have hF4 : FI (fun x => x = a + 1) M1 M4 := by rw [e4]; exact FI.ui rfl
    have hik : i.toNat = k := by omega
    have g2 : ∀ j, mI M4 (a + 1) j = if j = k then s / 10 else mI M1 (a + 1) j := fun j => by
      rw [e4, mI_UI, hik]
      by_cases z : j = k
      · rw [if_pos ⟨rfl, z⟩, if_pos z]
      · rw [if_neg (fun w => z w.2), if_neg z]
    refine ih (i + -1) _ M4 (by omega) (by omega) (by omega) (by omega) (by rw [e4]; exact mOk_UI hO1 ⟨by omega, by omega⟩) (hF1.trans hF4) (fun j z1 z2 => ?_) (fun j hj => ?_) ?_
    · rw [g2]
      split
      · omega
      · exact hd1 j (by omega) z2
    · rw [g2, if_neg (by omega)]
      exact he1 j (by omega)
    · obtain ⟨m, hm⟩ : ∃ m, (mI M a 1).toNat = k + 1 + m := ⟨(mI M a 1).toNat - (k + 1), by omega⟩
      have e5 : dg (mI M4 (a + 1)) k = dg (mI M1 (a + 1)) k := dg_congr _ (fun j hj => by rw [g2, if_neg (by omega)])
      have e6 : dg (mI M4 (a + 1)) (mI M a 1).toNat = dg (mI M1 (a + 1)) k + s / 10 * 16777216 ^ k + (dg (mI M1 (a + 1)) (mI M a 1).toNat - dg (mI M1 (a + 1)) (k + 1)) := by
        rw [hm, dg_split, dg_split (f := mI M1 (a + 1)), dg_congr (f := fun j => mI M4 (a + 1) (k + 1 + j)) (g := fun j => mI M1 (a + 1) (k + 1 + j)) _ (fun j hj => by show mI M4 (a + 1) (k + 1 + j) = _; rw [g2, if_neg (by omega)]), dg_succ (mI M4 (a + 1)) k, e5, g2, if_pos rfl]
        omega
      rw [dg_succ (mI M (a + 1)) k, dg_succ (mI M1 (a + 1)) k, Int.pow_succ] at hv1
      rw [e6, e5, dg_succ (mI M1 (a + 1)) k]
      have e7 : s * 16777216 ^ k = (10 * (s / 10) + s % 10) * 16777216 ^ k := by congr 1; omega
      have e8 : s * 16777216 ^ k = rs * 16777216 * 16777216 ^ k + mI M (a + 1) k * 16777216 ^ k := by rw [← hs, Int.add_mul, hik]
      rw [Int.add_mul, Int.mul_assoc] at e7
      rw [show rs * (16777216 ^ k * 16777216) = rs * 16777216 * 16777216 ^ k by rw [Int.mul_comm (16777216 ^ k), ← Int.mul_assoc]] at hv1
      omega
end
end
