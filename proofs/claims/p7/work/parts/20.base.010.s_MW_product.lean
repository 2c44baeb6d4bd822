section
section
variable {G : mG} {d a b c r r2 r3 : Nat} {M : mM}
/-- one more row of a product -/
theorem s_MW_product (hO : mOk M) (hA : Wh M a r) (hB : W3 M b r2) (hC : W3 M c r3) (hab : a ≠ b) (hac : a ≠ c) (hr : mI M b 1 + mI M c 1 ≤ r) : Cv G y_MW_product (d + 1) [vr a, vr b, vr c] M (fun M' => mOk M' ∧ FI (fun x => x = a ∨ x = a + 1) M M' ∧ W3 M' a r ∧ wv M' a = wv M b * wv M c) := by
  have hB0 := hB
  have hC0 := hC
  obtain ⟨⟨u1, u2, u3, u4, u5, u6, u7⟩, ud, ut⟩ := hB
  obtain ⟨⟨v1, v2, v3, v4, v5, v6, v7⟩, vd, vt⟩ := hC
  have hA0 := hA
  obtain ⟨w1, w2, w3, w4, w5, w6, w7⟩ := hA
  have h1 : a ≠ b + 1 := fun q => by rw [← q, w1] at u3; omega
  have h2 : a + 1 ≠ b := fun q => by rw [q, u1] at w3; omega
  have h3 : a ≠ c + 1 := fun q => by rw [← q, w1] at v3; omega
  have h4 : a + 1 ≠ c := fun q => by rw [q, v1] at w3; omega
  obtain ⟨zb1, zb2⟩ : ¬ (b = a ∨ b = a + 1) ∧ ¬ (b + 1 = a ∨ b + 1 = a + 1) := ⟨fun u => u.elim (fun e => hab e.symm) (fun e => h2 e.symm), fun u => u.elim (fun e => h1 e.symm) (fun e => hab (Nat.succ.inj e).symm)⟩
  obtain ⟨zc1, zc2⟩ : ¬ (c = a ∨ c = a + 1) ∧ ¬ (c + 1 = a ∨ c + 1 = a + 1) := ⟨fun u => u.elim (fun e => hac e.symm) (fun e => h4 e.symm), fun u => u.elim (fun e => h3 e.symm) (fun e => hac (Nat.succ.inj e).symm)⟩
  clear hab hac h1 h2 h3 h4
  replace zb1 : Hid0 _ := zb1
  replace zb2 : Hid0 _ := zb2
  replace zc1 : Hid0 _ := zc1
  replace zc2 : Hid0 _ := zc2
  generalize hnb : mI M b 1 = nb at *
  generalize hnc : mI M c 1 = nc at *
  refine k_MW_product hO ⟨u1, v1, w1, by rw [hnb, hnc]; exact ⟨by omega, by omega⟩, fun M0 e0 => ?_⟩
  rw [hnb, hnc] at e0
  have hO0 : mOk M0 := by rw [e0]; exact mOk_UI hO ⟨by omega, by omega⟩
  have hF0 : FI (fun x => x = a ∨ x = a + 1) M M0 := by rw [e0]; exact FI.ui (Or.inl rfl)
  have hn0 : mI M0 a 1 = nb + nc := by rw [e0, mI_UI, if_pos ⟨rfl, rfl⟩]
  -- the facts that stay
  have stay : ∀ M1, FI (fun x => x = a ∨ x = a + 1) M M1 → mI M1 b 1 = nb ∧ mI M1 c 1 = nc ∧ mI M1 (b + 1) = mI M (b + 1) ∧ mI M1 (c + 1) = mI M (c + 1) ∧ mK M1 b = 20 ∧ mK M1 c = 20 ∧ mR M1 b 0 = b + 1 ∧ mR M1 c 0 = c + 1 ∧ mK M1 (b + 1) = 30 ∧ mK M1 (c + 1) = 30 ∧ mN M1 (b + 1) = r2 ∧ mN M1 (c + 1) = r3 := by
    intro M1 hF
    refine ⟨?_, ?_, hF.2.2.2.2.2.2 _ zb2, hF.2.2.2.2.2.2 _ zc2, by rw [hF.1]; exact u1, by rw [hF.1]; exact v1, by rw [hF.2.2.1]; exact u2, by rw [hF.2.2.1]; exact v2, by rw [hF.1]; exact u3, by rw [hF.1]; exact v3, by rw [hF.2.1]; exact u4, by rw [hF.2.1]; exact v4⟩
    · rw [hF.2.2.2.2.2.2 b zb1]; exact hnb
    · rw [hF.2.2.2.2.2.2 c zc1]; exact hnc
  generalize hPost : (fun M' => mOk M' ∧ FI (fun x => x = a ∨ x = a + 1) M M' ∧ W3 M' a r ∧ wv M' a = wv M b * wv M c) = Post
  -- all rows but the first i
  have rowsL : ∀ (k : Nat) (i : Int) (M1 : mM), 0 ≤ i → nb - i = k → mOk M1 → FI (fun x => x = a ∨ x = a + 1) M M1 → mI M1 a 1 = nb + nc → (∀ j : Nat, (j : Int) < nb + nc → 0 ≤ mI M1 (a + 1) j ∧ mI M1 (a + 1) j < 16777216) → (∀ j : Nat, i + nc ≤ (j : Int) → (j : Int) < nb + nc → mI M1 (a + 1) j = 0) → dg (mI M1 (a + 1)) (nb + nc).toNat = dg (mI M (b + 1)) i.toNat * wv M c → h_MW_product_38 G d a b c i M1 Post := by
    intro k
    induction k with
    | zero =>
      intro i M1 g0 gk hO1 hF1 hn1 hd1 hz1 hv1
      replace hv1 : Hid0 _ := hv1
      obtain ⟨s1, s2, s3, s4, s5, s6, s7, s8, s9, s10, s11, s12⟩ := stay M1 hF1
      have hW1 : Wh M1 a r := hA0.fi hF1 (by omega) (by omega)
      refine k_MW_product_38 hO1 ⟨by omega, by omega⟩ ?_
      rw [s1]
      refine ⟨s5, fun hc => ⟨hW1.1, ?_⟩, fun hc => by omega⟩
      refine (s_MW_trim (mI M1 a 1).toNat M1 hO1 hW1 (fun j hj => hd1 j (by omega)) (by omega)).mono (fun M2 q2 => ?_)
      obtain ⟨q1, q2, q3, q4, q5, q6⟩ := q2
      rw [← hPost]
      refine ⟨q1, q1, hF1.trans (q2.mono (fun x q => Or.inl q)), ⟨q3, q4, q5⟩, ?_⟩
      rw [q6]
      unfold Hid0 at hv1
      unfold wv at hv1 ⊢
      rw [hn1, hv1, hnb, hnc, show i.toNat = nb.toNat by first | rfl | omega]
    | succ k ih =>
      intro i M1 g0 gk hO1 hF1 hn1 hd1 hz1 hv1
      replace hv1 : Hid0 _ := hv1
      obtain ⟨s1, s2, s3, s4, s5, s6, s7, s8, s9, s10, s11, s12⟩ := stay M1 hF1
      refine k_MW_product_38 hO1 ⟨by omega, by omega⟩ ?_
      rw [s1]
      refine ⟨s5, fun hc => by omega, fun hc => ?_⟩
      have hbi := ud i.toNat (by omega)
      -- the inner loop
      suffices H : ∀ (k2 : Nat) (j cy : Int) (M2 : mM), 0 ≤ j → nc - j = k2 → 0 ≤ cy → cy < 16777216 → mOk M2 → FI (fun x => x = a ∨ x = a + 1) M M2 → mI M2 a 1 = nb + nc → (∀ q : Nat, (q : Int) < nb + nc → 0 ≤ mI M2 (a + 1) q ∧ mI M2 (a + 1) q < 16777216) → (∀ q : Nat, i + nc ≤ (q : Int) → (q : Int) < nb + nc → mI M2 (a + 1) q = 0) → dg (mI M2 (a + 1)) (nb + nc).toNat + cy * 16777216 ^ (i + j).toNat = dg (mI M (b + 1)) i.toNat * wv M c + mI M (b + 1) i.toNat * dg (mI M (c + 1)) j.toNat * 16777216 ^ i.toNat → h_MW_product_52 G d a b c i cy j M2 Post by
        refine H nc.toNat 0 0 M1 (by omega) (by omega) (by omega) (by omega) hO1 hF1 hn1 hd1 hz1 ?_
        unfold Hid0 at hv1
        rw [show (0 : Int).toNat = 0 from rfl, hv1]
        simp [dg]
      intro k2
      induction k2 with
      | zero =>
        intro j cy M2 f0 fk c0 c1 hO2 hF2 hn2 hd2 hz2 hv2
        replace hv2 : Hid0 _ := hv2
        obtain ⟨s1, s2, s3, s4, s5, s6, s7, s8, s9, s10, s11, s12⟩ := stay M2 hF2
        have hW2 : Wh M2 a r := hA0.fi hF2 (by omega) (by omega)
        have hj : j = nc := by omega
        refine k_MW_product_52 hO2 ⟨by omega, by omega⟩ ⟨by omega, by omega⟩ ⟨by omega, by omega⟩ ?_
        rw [s2, hW2.2.1, hW2.2.2.2.1]
        refine ⟨s6, fun hc => ⟨hW2.1, hW2.2.2.1, by omega, ⟨by omega, by omega⟩, fun M4 e4 => ?_⟩, fun hc => by omega⟩
        have hF4 : FI (fun x => x = a ∨ x = a + 1) M2 M4 := by rw [e4]; exact FI.ui (Or.inr rfl)
        have e4a : ∀ q, mI M4 (a + 1) q = if q = (i + nc).toNat then cy else mI M2 (a + 1) q := fun q => by
          rw [e4, mI_UI]
          by_cases z : q = (i + nc).toNat
          · rw [if_pos ⟨rfl, z⟩, if_pos z]
          · rw [if_neg (fun w => z w.2), if_neg z]
        refine ih (i + 1) M4 (by omega) (by omega) (by rw [e4]; exact mOk_UI hO2 ⟨by omega, by omega⟩) (hF2.trans hF4) (by rw [e4, mI_UI, if_neg (by omega)]; exact hn2) (fun q hq => ?_) (fun q z1 z2 => ?_) ?_
        · rw [e4a]
          split
          · omega
          · exact hd2 q hq
        · rw [e4a, if_neg (by omega)]
          exact hz2 q (by omega) z2
        · -- the place i + nc was 0
          have hz := hz2 (i + nc).toNat (by omega) (by omega)
          obtain ⟨m, hm⟩ : ∃ m, (nb + nc).toNat = (i + nc).toNat + (m + 1) := ⟨(nb + nc).toNat - (i + nc).toNat - 1, by omega⟩
          have key : ∀ f : Nat → Int, (∀ q, f q = if q = (i + nc).toNat then cy else mI M2 (a + 1) q) → dg f (nb + nc).toNat = dg (mI M2 (a + 1)) (nb + nc).toNat + cy * 16777216 ^ (i + nc).toNat := by
            intro f hf
            rw [hm, dg_split, dg_split (f := mI M2 (a + 1)), dg_congr (g := mI M2 (a + 1)) (f := f) _ (fun q hq => by rw [hf, if_neg (by omega)])]
            have : ∀ n, dg (fun q => f ((i + nc).toNat + q)) (n + 1) = dg (fun q => mI M2 (a + 1) ((i + nc).toNat + q)) (n + 1) + cy := by
              intro n
              induction n with
              | zero => simp [dg, hf, hz]
              | succ n ihn =>
                rw [dg_succ (fun q => f ((i + nc).toNat + q)) (n + 1), ihn, dg_succ (fun q => mI M2 (a + 1) ((i + nc).toNat + q)) (n + 1)]
                show _ + f ((i + nc).toNat + (n + 1)) * _ = _ + mI M2 (a + 1) ((i + nc).toNat + (n + 1)) * _ + cy
                rw [show f ((i + nc).toNat + (n + 1)) = mI M2 (a + 1) ((i + nc).toNat + (n + 1)) by rw [hf, if_neg (by omega)]]
                omega
            rw [this, Int.add_mul]
            omega
          rw [key _ e4a, show (i + 1).toNat = i.toNat + 1 by first | rfl | omega, dg, Int.add_mul]
          unfold Hid0 at hv2
          rw [hj] at hv2
          rw [hv2]
          unfold wv
          rw [hnc, Int.mul_assoc, Int.mul_assoc, Int.mul_comm (dg (mI M (c + 1)) nc.toNat)]
      | succ k2 ih2 =>
        intro j cy M2 f0 fk c0 c1 hO2 hF2 hn2 hd2 hz2 hv2
        replace hv2 : Hid0 _ := hv2
        obtain ⟨s1, s2, s3, s4, s5, s6, s7, s8, s9, s10, s11, s12⟩ := stay M2 hF2
        have hW2 : Wh M2 a r := hA0.fi hF2 (by omega) (by omega)
        have hdj := hd2 (i + j).toNat (by omega)
        have hcj := vd j.toNat (by omega)
        have hp0 := Int.mul_nonneg hbi.1 hcj.1
        have hp1 : mI M (b + 1) i.toNat * mI M (c + 1) j.toNat ≤ 16777215 * 16777215 := Int.mul_le_mul (by omega) (by omega) hcj.1 (by omega)
        refine k_MW_product_52 hO2 ⟨by omega, by omega⟩ ⟨by omega, by omega⟩ ⟨by omega, by omega⟩ ?_
        rw [s2, hW2.2.1, hW2.2.2.2.1, s7, s8, s9, s10, s11, s12, s3, s4]
        generalize hS : cy + mI M2 (a + 1) (i + j).toNat + mI M (b + 1) i.toNat * mI M (c + 1) j.toNat = S
        have hS0 : 0 ≤ S := by omega
        have hS1 : S < 16777216 * 16777216 := by omega
        have hmm := Int.emod_nonneg S (show (16777216 : Int) ≠ 0 by decide)
        have hmm2 := Int.emod_lt_of_pos S (show (0 : Int) < 16777216 by decide)
        have hdm := Int.emod_add_mul_ediv S 16777216
        replace hdm : Hid0 _ := hdm
        clear hp0 hp1 hbi hcj hdj
        rw [Int.tmod_eq_emod_of_nonneg hS0, Int.tdiv_eq_ediv_of_nonneg hS0]
        refine ⟨s6, fun hc => by omega, fun hc => ⟨hW2.1, hW2.2.2.1, by omega, s5, rfl, by omega, rfl, by omega, ⟨by omega, by omega⟩, by omega, ⟨by omega, by omega⟩, fun M4 e4 => ?_⟩⟩
        have hF4 : FI (fun x => x = a ∨ x = a + 1) M2 M4 := by rw [e4]; exact FI.ui (Or.inr rfl)
        have e4a : ∀ q, mI M4 (a + 1) q = if q = (i + j).toNat then S % 16777216 else mI M2 (a + 1) q := fun q => by
          rw [e4, mI_UI]
          by_cases z : q = (i + j).toNat
          · rw [if_pos ⟨rfl, z⟩, if_pos z]
          · rw [if_neg (fun w => z w.2), if_neg z]
        refine ih2 (j + 1) _ M4 (by omega) (by omega) (by omega) (by omega) (by rw [e4]; exact mOk_UI hO2 ⟨by omega, by omega⟩) (hF2.trans hF4) (by rw [e4, mI_UI, if_neg (by omega)]; exact hn2) (fun q hq => ?_) (fun q z1 z2 => ?_) ?_
        · rw [e4a]
          split
          · omega
          · exact hd2 q hq
        · rw [e4a, if_neg (by omega)]
          exact hz2 q z1 z2
        · obtain ⟨m, hm⟩ : ∃ m, (nb + nc).toNat = (i + j).toNat + (m + 1) := ⟨(nb + nc).toNat - (i + j).toNat - 1, by omega⟩
          have key : dg (mI M4 (a + 1)) (nb + nc).toNat = dg (mI M2 (a + 1)) (nb + nc).toNat + (S % 16777216 - mI M2 (a + 1) (i + j).toNat) * 16777216 ^ (i + j).toNat := by
            rw [hm, dg_split, dg_split (f := mI M2 (a + 1)), dg_congr (g := mI M2 (a + 1)) (f := mI M4 (a + 1)) _ (fun q hq => by rw [e4a, if_neg (by omega)])]
            have : ∀ n, dg (fun q => mI M4 (a + 1) ((i + j).toNat + q)) (n + 1) = dg (fun q => mI M2 (a + 1) ((i + j).toNat + q)) (n + 1) + (S % 16777216 - mI M2 (a + 1) (i + j).toNat) := by
              intro n
              induction n with
              | zero =>
                simp [dg, e4a]
                omega
              | succ n ihn =>
                rw [dg_succ (fun q => mI M4 (a + 1) ((i + j).toNat + q)) (n + 1), ihn, dg_succ (fun q => mI M2 (a + 1) ((i + j).toNat + q)) (n + 1)]
                show _ + mI M4 (a + 1) ((i + j).toNat + (n + 1)) * _ = _ + mI M2 (a + 1) ((i + j).toNat + (n + 1)) * _ + (S % 16777216 - mI M2 (a + 1) (i + j).toNat)
                rw [show mI M4 (a + 1) ((i + j).toNat + (n + 1)) = mI M2 (a + 1) ((i + j).toNat + (n + 1)) by rw [e4a, if_neg (by omega)]]
                omega
            rw [this, Int.add_mul]
            omega
          rw [key, show (i + (j + 1)).toNat = (i + j).toNat + 1 by first | rfl | omega, show (j + 1).toNat = j.toNat + 1 by first | rfl | omega, dg, Int.pow_succ]
          have e5 : (16777216 : Int) ^ (i + j).toNat = 16777216 ^ i.toNat * 16777216 ^ j.toNat := by rw [← Int.pow_add, show (i + j).toNat = i.toNat + j.toNat by first | rfl | omega]
          unfold Hid0 at hdm hv2
          have e6 : S * 16777216 ^ (i + j).toNat = (S % 16777216 + 16777216 * (S / 16777216)) * 16777216 ^ (i + j).toNat := by rw [hdm]
          rw [Int.add_mul] at e6
          have e7 : S * 16777216 ^ (i + j).toNat = cy * 16777216 ^ (i + j).toNat + mI M2 (a + 1) (i + j).toNat * 16777216 ^ (i + j).toNat + mI M (b + 1) i.toNat * mI M (c + 1) j.toNat * 16777216 ^ (i + j).toNat := by rw [← hS, Int.add_mul, Int.add_mul]
          have e8 : mI M (b + 1) i.toNat * (dg (mI M (c + 1)) j.toNat + mI M (c + 1) j.toNat * 16777216 ^ j.toNat) * 16777216 ^ i.toNat = mI M (b + 1) i.toNat * dg (mI M (c + 1)) j.toNat * 16777216 ^ i.toNat + mI M (b + 1) i.toNat * mI M (c + 1) j.toNat * 16777216 ^ (i + j).toNat := by
            rw [e5, Int.mul_add, Int.add_mul]
            congr 1
            rw [Int.mul_comm (16777216 ^ i.toNat)]
            simp only [Int.mul_assoc]
          have e9 : S / 16777216 * (16777216 ^ (i + j).toNat * 16777216) = 16777216 * (S / 16777216) * 16777216 ^ (i + j).toNat := by rw [Int.mul_comm (16777216 ^ (i + j).toNat), ← Int.mul_assoc, Int.mul_comm (S / 16777216)]
          rw [e8, e9, Int.sub_mul]
          omega
  -- the places become 0
  suffices H : ∀ (k : Nat) (i : Int) (M1 : mM), 0 ≤ i → nb + nc - i = k → mOk M1 → FI (fun x => x = a ∨ x = a + 1) M M1 → mI M1 a 1 = nb + nc → (∀ j : Nat, (j : Int) < i → mI M1 (a + 1) j = 0) → h_MW_product_15 G d a b c i M1 Post from
    H (nb + nc).toNat 0 M0 (by omega) (by omega) hO0 hF0 hn0 (fun j hj => by omega)
  intro k
  induction k with
  | zero =>
    intro i M1 g0 gk hO1 hF1 hn1 hz1
    have hW1 : Wh M1 a r := hA0.fi hF1 (by omega) (by omega)
    refine k_MW_product_15 hO1 ⟨by omega, by omega⟩ ⟨hW1.1, fun hc => ?_, fun hc => by omega⟩
    refine rowsL nb.toNat 0 M1 (by omega) (by omega) hO1 hF1 hn1 (fun j hj => by rw [hz1 j (by omega)]; omega) (fun j z1 z2 => hz1 j (by omega)) ?_
    rw [dg_zero _ (fun j hj => hz1 j (by omega))]
    simp [dg]
  | succ k ih =>
    intro i M1 g0 gk hO1 hF1 hn1 hz1
    have hW1 : Wh M1 a r := hA0.fi hF1 (by omega) (by omega)
    refine k_MW_product_15 hO1 ⟨by omega, by omega⟩ ?_
    rw [hW1.2.1, hW1.2.2.2.1]
    refine ⟨hW1.1, fun hc => by omega, fun hc => ⟨hW1.2.2.1, by omega, fun M2 e2 => ?_⟩⟩
    have hF2 : FI (fun x => x = a ∨ x = a + 1) M1 M2 := by rw [e2]; exact FI.ui (Or.inr rfl)
    refine ih (i + 1) M2 (by omega) (by omega) (by rw [e2]; exact mOk_UI hO1 ⟨by omega, by omega⟩) (hF1.trans hF2) (by rw [e2, mI_UI, if_neg (by omega)]; exact hn1) (fun j hj => ?_)
    rw [e2, mI_UI]
    split
    · rfl
    · exact hz1 j (by omega)
end
end
