section
section
variable {G : mG} {d a b c r r2 r3 : Nat} {M : mM}
theorem s_MW_compare (hO : mOk M) (hA : W3 M a r) (hB : W3 M b r2) : Ci G y_MW_compare d [vr a, vr b] M (fun x M' => M' = M ∧ x = if wv M a < wv M b then -1 else if wv M a = wv M b then 0 else 1) := by
  have hA0 := hA
  have hB0 := hB
  obtain ⟨⟨w1, w2, w3, w4, w5, w6, w7⟩, wd, wt⟩ := hA
  obtain ⟨⟨v1, v2, v3, v4, v5, v6, v7⟩, vd, vt⟩ := hB
  refine k_MW_compare hO ⟨w1, v1, fun hc => ?_, fun hc v hv => ⟨rfl, ?_⟩⟩
  · suffices H : ∀ (k : Nat) (i : Int), i + 1 = k → i < mI M a 1 → (∀ j : Nat, i < (j : Int) → (j : Int) < mI M a 1 → mI M (a + 1) j = mI M (b + 1) j) → h_MW_compare_35 G d a b i M (fun x M' => M' = M ∧ x = if wv M a < wv M b then -1 else if wv M a = wv M b then 0 else 1) from
      H (mI M a 1).toNat (mI M a 1 - 1) (by omega) (by omega) (fun j q1 q2 => by omega)
    intro k
    induction k with
    | zero =>
      intro i hk hi hj
      refine k_MW_compare_35 hO ⟨by omega, by omega⟩ ?_
      rw [w2, v2]
      refine ⟨fun q => by omega, fun q => ⟨fun z => by omega, fun v hv => ⟨rfl, ?_⟩⟩, fun q => absurd (Or.inl (by omega)) q⟩
      have e : wv M a = wv M b := by
        unfold wv
        rw [hc]
        exact dg_congr _ (fun j q => hj j (by omega) (by omega))
      rw [hv, e, if_neg (by omega), if_neg (by omega), if_pos rfl]
    | succ k ih =>
      intro i hk hi hj
      have hki : i = k := by omega
      refine k_MW_compare_35 hO ⟨by omega, by omega⟩ ?_
      rw [w2, v2, w4, v4]
      refine ⟨fun q => ⟨w1, w3, by omega, v1, v3, by omega⟩, fun q => ⟨fun z => ⟨w1, w3, by omega, v1, v3, by omega⟩, fun v hv => ⟨rfl, ?_⟩⟩, fun q => ?_⟩
      · have hne : mI M (a + 1) i.toNat ≠ mI M (b + 1) i.toNat := by
          rcases q with q | q
          · omega
          · exact q
        rw [hv, if_pos (by omega)]
        have hnat : (mI M b 1).toNat = (mI M a 1).toNat := by rw [hc]
        by_cases z : mI M (b + 1) i.toNat ≤ mI M (a + 1) i.toNat
        · have := dg_cmp (f := mI M (b + 1)) (g := mI M (a + 1)) (n := (mI M a 1).toNat) (i := i.toNat) (by omega) (fun j q => vd j (by omega)) (fun j q => wd j (by omega)) (fun j q1 q2 => (hj j (by omega) (by omega)).symm) (by omega)
          unfold wv
          rw [if_pos z, hnat, if_neg (by omega), if_neg (by omega)]
        · have := dg_cmp (f := mI M (a + 1)) (g := mI M (b + 1)) (n := (mI M a 1).toNat) (i := i.toNat) (by omega) (fun j q => wd j (by omega)) (fun j q => vd j (by omega)) (fun j q1 q2 => hj j (by omega) (by omega)) (by omega)
          unfold wv
          rw [if_neg z, hnat, if_pos (by omega)]
      · have he : mI M (a + 1) i.toNat = mI M (b + 1) i.toNat := Classical.not_not.mp (fun z => q (Or.inr z))
        refine ih (i + -1) (by omega) (by omega) (fun j q1 q2 => ?_)
        by_cases z : (j : Int) = i
        · rw [show j = i.toNat by first | rfl | omega]; exact he
        · exact hj j (by omega) q2
  · rw [hv]
    by_cases z : mI M b 1 ≤ mI M a 1
    · have h1 := hA0.ge (by omega)
      have h2 := hB0.lt
      have h3 := pow_mono (m := (mI M b 1).toNat) (n := (mI M a 1).toNat - 1) (by omega)
      rw [if_pos z, if_neg (by omega), if_neg (by omega)]
    · have h1 := hB0.ge (by omega)
      have h2 := hA0.lt
      have h3 := pow_mono (m := (mI M a 1).toNat) (n := (mI M b 1).toNat - 1) (by omega)
      rw [if_neg z, if_pos (by omega)]
/-- a digit, 0 beyond the number -/
def wg (M : mM) (a : Nat) (i : Nat) : Int := if mI M a 1 ≤ (i : Int) then 0 else mI M (a + 1) i
theorem dg_wg {M : mM} {a n : Nat} (h0 : 0 ≤ mI M a 1) (hn : (mI M a 1).toNat ≤ n) : dg (wg M a) n = wv M a := by
  obtain ⟨k, rfl⟩ := Nat.le.dest hn
  induction k with
  | zero =>
    unfold wv
    exact dg_congr _ (fun j hj => by unfold wg; rw [if_neg (by omega)])
  | succ k ih =>
    show dg (wg M a) ((mI M a 1).toNat + k + 1) = _
    rw [dg, ih (by omega), show wg M a ((mI M a 1).toNat + k) = 0 by unfold wg; rw [if_pos (by omega)]]
    omega
theorem W3.wgb {M : mM} {a r : Nat} (h : W3 M a r) (i : Nat) : 0 ≤ wg M a i ∧ wg M a i < 16777216 := by
  unfold wg
  split
  · omega
  · exact h.2.1 i (by omega)
end
end
