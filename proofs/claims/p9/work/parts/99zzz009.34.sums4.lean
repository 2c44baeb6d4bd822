section
section
/-! The reference's sums: sums and differences. -/
section SU
variable {G : mG} {d u a b ra rb : Nat} {M : mM}
theorem sums_164 {Q : mM → Prop} (hO : mOk M) (hZ : Sz M u) (hx : W3 M (u + 11) 900) (hz : W3 M (u + 15) 900) (sx : mI M (u + 11) 1 < 900) (sz : mI M (u + 15) 1 < 900) (hz0 : 0 < wv M (u + 15)) (hf : mI M (u + 1) 2 = 0 ∨ mI M (u + 1) 2 = 1)
    (hQ : ∀ M', suQ M u (if mI M (u + 1) 2 = 1 then - wv M (u + 11) else wv M (u + 11)) (wv M (u + 15)) M' → Q M') :
    h_MU_add_164 G (d + 3) u M Q := by
  refine k_MU_add_164 hO ?_
  rw [hZ.1.2.1, hZ.bt, hZ.1.2.2.2.2.2.1]
  refine ⟨hZ.1.1, hZ.2.1.1, (hZ.wh 4 (by decide)).1, (s_MW_copy hO (hZ.wh 4 (by decide)) hz (by omega) hz.1.2.2.2.2.2.2).mono (fun M1 h1 => ?_)⟩
  obtain ⟨g1, g2, g3, g4⟩ := h1
  have Z1 := hZ.step (c := 4) (by decide) rfl g2 g3.1
  obtain ⟨x1, vx1⟩ := hx.out g2 (by omega) (by omega)
  refine ⟨g1, Z1.1.1, ?_⟩
  rw [Z1.1.2.1, Z1.tp, Z1.1.2.2.2.1]
  refine ⟨Z1.2.1.1, (Z1.wh 2 (by decide)).1, (s_MW_copy g1 (Z1.wh 2 (by decide)) x1 (by omega) x1.1.2.2.2.2.2.2).mono (fun M2 h2 => ?_)⟩
  obtain ⟨k1, k2, k3, k4⟩ := h2
  have Z2 := Z1.step (c := 2) (by decide) rfl k2 k3.1
  obtain ⟨b2, vb2⟩ := g3.out k2 (by omega) (by omega)
  have e2 : mI M2 (u + 1) = mI M (u + 1) := (k2.2.2.2.2.2.2 (u + 1) (by omega)).trans (g2.2.2.2.2.2.2 (u + 1) (by omega))
  have z1 : mI M2 (u + 2) 1 < 900 := by have := k3.le hx (by omega); omega
  have z2 : mI M2 (u + 4) 1 < 900 := by have := b2.le hz (by omega); omega
  have F2 : Fq M2 (u + 1) 900 := ⟨Z2.2.1, k3, b2, by rw [e2]; exact hf, by show 0 < wv M2 (u + 4); omega⟩
  refine ⟨k1, Z2.1.1, (s_MU_settle k1 Z2 F2 z1 z2).mono (fun M3 h3 => ?_)⟩
  obtain ⟨m1, m2, m3, m4, m5, m6⟩ := h3
  refine ⟨m1, hQ M3 ⟨m1, ((g2.mono (fun x q => by omega)).trans (k2.mono (fun x q => by omega))).trans m2, m3, m4, m5, ?_⟩⟩
  unfold sn sd at m6
  rw [e2, show wv M2 (u + 1 + 1) = wv M (u + 11) from k4.trans vx1, show wv M2 (u + 1 + 3) = wv M (u + 15) from vb2.trans g4] at m6
  exact m6
/-- the last steps of a sum: the sign is written, then 164 -/
theorem sums_sign {Q : mM → Prop} {v : Int} (hO : mOk M) (hZ : Sz M u) (hx : W3 M (u + 11) 900) (hz : W3 M (u + 15) 900) (sx : mI M (u + 11) 1 < 900) (sz : mI M (u + 15) 1 < 900) (hz0 : 0 < wv M (u + 15)) (hf : v = 0 ∨ v = 1)
    (hQ : ∀ M', suQ M u (if v = 1 then - wv M (u + 11) else wv M (u + 11)) (wv M (u + 15)) M' → Q M') :
    ∀ M1, M1 = mUI M (mR M u 0) 2 v → h_MU_add_164 G (d + 3) u M1 Q := by
  intro M3 e3
  rw [hZ.1.2.1] at e3
  have Z3 : Sz M3 u := by rw [e3]; exact hZ.flag
  have f3 : FI (fun x => x = u + 1) M M3 := by rw [e3]; exact FI.ui rfl
  have o3 : mOk M3 := by rw [e3]; exact mOk_UI hO ⟨by omega, by omega⟩
  have v3 : mI M3 (u + 1) 2 = v := by rw [e3, mI_UI, if_pos ⟨rfl, rfl⟩]
  obtain ⟨x3, vx3⟩ := hx.out f3 (by omega) (by omega)
  obtain ⟨y3, vy3⟩ := hz.out f3 (by omega) (by omega)
  have zx3 : mI M3 (u + 11) 1 < 900 := by have := x3.le hx (by omega); omega
  have zy3 : mI M3 (u + 15) 1 < 900 := by have := y3.le hz (by omega); omega
  refine sums_164 o3 Z3 x3 y3 zx3 zy3 (by omega) (by omega) (fun M' h' => hQ M' ?_)
  obtain ⟨n1, n2, n3, n4, n5, n6⟩ := h'
  rw [v3, vx3, vy3] at n6
  exact ⟨n1, (f3.mono (fun x q => by omega)).trans n2, n3, n4, n5, n6⟩
theorem s_MU_add {m : Int} (hm : m = 0 ∨ m = 1) (hO : mOk M) (hZ : Sz M u) (hA : Fq M a ra) (hB : Fq M b rb) (oa : suO u a) (ob : suO u b)
    (z1 : mI M (a + 1) 1 + mI M (b + 3) 1 < 899) (z2 : mI M (b + 1) 1 + mI M (a + 3) 1 < 899) (z3 : mI M (a + 3) 1 + mI M (b + 3) 1 < 900) :
    Cv G y_MU_add (d + 4) [vr u, vr a, vr b, vi m] M (suQ M u (sn M a * sd M b + (if m = 1 then - (sn M b * sd M a) else sn M b * sd M a)) (sd M a * sd M b)) := by
  refine k_MU_add hO ⟨by omega, by omega⟩ ⟨hB.1.1, fun w hw => ?_⟩
  rw [hZ.1.2.2.2.1, hA.1.2.1, hB.1.2.2]
  refine ⟨hZ.1.1, hA.1.1, (hZ.wh 11 (by decide)).1, (s_MW_product hO (hZ.wh 11 (by decide)) hA.2.1 hB.2.2.1 (by omega) (by omega) (by omega)).mono (fun M1 h1 => ?_)⟩
  obtain ⟨g1, g2, g3, g4⟩ := h1
  have Z1 := hZ.step (c := 11) (by decide) rfl g2 g3.1
  have A1 := hA.out g2 (fun x q => by omega)
  have B1 := hB.out g2 (fun x q => by omega)
  have za : mI M1 (a + 3) 1 = mI M (a + 3) 1 := by rw [g2.2.2.2.2.2.2 (a + 3) (by omega)]
  have zb : mI M1 (b + 1) 1 = mI M (b + 1) 1 := by rw [g2.2.2.2.2.2.2 (b + 1) (by omega)]
  have zb3 : mI M1 (b + 3) 1 = mI M (b + 3) 1 := by rw [g2.2.2.2.2.2.2 (b + 3) (by omega)]
  refine ⟨g1, Z1.1.1, B1.1.1.1, A1.1.1.1, ?_⟩
  rw [Z1.1.2.2.2.2.1, A1.1.1.2.2, B1.1.1.2.1]
  refine ⟨(Z1.wh 13 (by decide)).1, (s_MW_product g1 (Z1.wh 13 (by decide)) B1.1.2.1 A1.1.2.2.1 (by omega) (by omega) (by omega)).mono (fun M2 h2 => ?_)⟩
  obtain ⟨k1, k2, k3, k4⟩ := h2
  have Z2 := Z1.step (c := 13) (by decide) rfl k2 k3.1
  have A2 := A1.1.out k2 (fun x q => by omega)
  have B2 := B1.1.out k2 (fun x q => by omega)
  obtain ⟨x2, vx2⟩ := g3.out k2 (by omega) (by omega)
  have za2 : mI M2 (a + 3) 1 = mI M (a + 3) 1 := by rw [k2.2.2.2.2.2.2 (a + 3) (by omega)]; exact za
  have zb2 : mI M2 (b + 3) 1 = mI M (b + 3) 1 := by rw [k2.2.2.2.2.2.2 (b + 3) (by omega)]; exact zb3
  refine ⟨k1, Z2.1.1, A2.1.1.1, B2.1.1.1, ?_⟩
  rw [Z2.1.2.2.2.2.2.1, A2.1.1.2.2, B2.1.1.2.2]
  refine ⟨(Z2.wh 15 (by decide)).1, (s_MW_product k1 (Z2.wh 15 (by decide)) A2.1.2.2.1 B2.1.2.2.1 (by omega) (by omega) (by omega)).mono (fun M3 h3 => ?_)⟩
  obtain ⟨m1, m2, m3, m4⟩ := h3
  have Z3 := Z2.step (c := 15) (by decide) rfl m2 m3.1
  have A3 := A2.1.out m2 (fun x q => by omega)
  have B3 := B2.1.out m2 (fun x q => by omega)
  obtain ⟨x3, vx3⟩ := x2.out m2 (by omega) (by omega)
  obtain ⟨y3, vy3⟩ := k3.out m2 (by omega) (by omega)
  have ex : wv M3 (u + 11) = wv M (a + 1) * sd M b := vx3.trans (vx2.trans g4)
  have ey : wv M3 (u + 13) = wv M (b + 1) * sd M a := by rw [vy3, k4, B1.2.2.2.1, A1.2.2.2.2.1]; rfl
  have ez : wv M3 (u + 15) = sd M a * sd M b := by rw [m4, A2.2.2.2.2.1, B2.2.2.2.2.1, A1.2.2.2.2.1, B1.2.2.2.2.1]; rfl
  have ez0 : 0 < wv M3 (u + 15) := by rw [ez]; exact Int.mul_pos hA.2.2.2.2 hB.2.2.2.2
  have ea : mI M3 a = mI M a := A3.2.2.2.2.2.trans (A2.2.2.2.2.2.trans A1.2.2.2.2.2)
  have sx : mI M3 (u + 11) 1 ≤ 898 := by
    have h1 : wv M3 (u + 11) < 16777216 ^ ((mI M (a + 1) 1).toNat + (mI M (b + 3) 1).toNat) := by
      rw [ex, Int.pow_add]
      exact mul_lt_B hA.2.1.lt hB.2.2.1.lt hA.2.1.nonneg hB.2.2.1.nonneg
    have h2 := x3.size h1
    have h3 := hA.2.1.1.2.2.2.2.2.1
    have h4 := hB.2.2.1.1.2.2.2.2.2.1
    omega
  have sy : mI M3 (u + 13) 1 ≤ 898 := by
    have h1 : wv M3 (u + 13) < 16777216 ^ ((mI M (b + 1) 1).toNat + (mI M (a + 3) 1).toNat) := by
      rw [ey, Int.pow_add]
      exact mul_lt_B hB.2.1.lt hA.2.2.1.lt hB.2.1.nonneg hA.2.2.1.nonneg
    have h2 := y3.size h1
    have h3 := hB.2.1.1.2.2.2.2.2.1
    have h4 := hA.2.2.1.1.2.2.2.2.2.1
    omega
  have sz : mI M3 (u + 15) 1 < 900 := by
    have h1 : wv M3 (u + 15) < 16777216 ^ ((mI M (a + 3) 1).toNat + (mI M (b + 3) 1).toNat) := by
      rw [ez, Int.pow_add]
      exact mul_lt_B hA.2.2.1.lt hB.2.2.1.lt hA.2.2.1.nonneg hB.2.2.1.nonneg
    have h2 := m3.size h1
    have h3 := hA.2.2.1.1.2.2.2.2.2.1
    have h4 := hB.2.2.1.1.2.2.2.2.2.1
    omega
  have F3 : FI (fun x => u + 11 ≤ x ∧ x ≤ u + 16) M M3 := ((g2.mono (fun x q => by omega)).trans (k2.mono (fun x q => by omega))).trans (m2.mono (fun x q => by omega))
  have hw01 : w = 0 ∨ w = 1 := by split at hw <;> omega
  have ha := hA.2.2.2.1
  have hb := hB.2.2.2.1
  -- the value to be reached
  have hval : sn M a * sd M b + (if m = 1 then - (sn M b * sd M a) else sn M b * sd M a) = (if mI M a 2 = 1 then - wv M3 (u + 11) else wv M3 (u + 11)) + (if w = 1 then - wv M3 (u + 13) else wv M3 (u + 13)) := by
    rw [sn_mul, sn_mul, ← ex, ← ey]
    congr 1
    rcases hb with q | q <;> rcases hm with p | p <;> simp [p, q] at hw ⊢ <;> simp [hw]
  refine ⟨m1, A3.1.1.1, fun c => ⟨Z3.1.1, ?_⟩, fun c => ⟨Z3.1.1, ?_⟩⟩
  · rw [Z3.1.2.2.2.1, Z3.1.2.2.2.2.1]
    refine ⟨x3.1.1, (s_MW_add m1 x3 y3 (by omega) (by omega)).mono (fun M4 h4 => ?_)⟩
    obtain ⟨n1, n2, n3, n4⟩ := h4
    have Z4 := Z3.step (c := 11) (by decide) rfl n2 n3.1
    have A4 := A3.1.out n2 (fun x q => by omega)
    obtain ⟨z4, vz4⟩ := m3.out n2 (by omega) (by omega)
    have sz4 : mI M4 (u + 15) 1 < 900 := by have := z4.le m3 (by omega); omega
    have sx4 : mI M4 (u + 11) 1 < 900 := by
      have h1 : wv M4 (u + 11) < 16777216 ^ 899 := by
        have h2 := x3.lt
        have h3 := y3.lt
        have h4 := pow_mono (m := (mI M3 (u + 11) 1).toNat) (n := 898) (by omega)
        have h5 := pow_mono (m := (mI M3 (u + 13) 1).toNat) (n := 898) (by omega)
        have h6 : (16777216 : Int) ^ 899 = 16777216 ^ 898 * 16777216 := Int.pow_succ _ _
        have h7 := B_pos 898
        rw [n4]
        generalize (16777216 : Int) ^ 898 = P at *
        generalize (16777216 : Int) ^ 899 = P2 at *
        omega
      have := n3.size h1
      omega
    rw [A4.2.2.2.2.2, ea, Z4.1.2.1]
    rw [ea] at c
    refine ⟨n1, Z4.1.1, A4.1.1.1, Z4.2.1.1, ha, ?_⟩
    have hs := sums_sign (G := G) (d := d) (Q := suQ M u (sn M a * sd M b + (if m = 1 then - (sn M b * sd M a) else sn M b * sd M a)) (sd M a * sd M b)) n1 Z4 n3 z4 sx4 sz4 (by omega) ha (fun M' h' => ?_)
    · rw [Z4.1.2.1] at hs
      exact hs
    · obtain ⟨q1, q2, q3, q4, q5, q6⟩ := h'
      refine ⟨q1, ((F3.mono (fun x q => by omega)).trans (n2.mono (fun x q => by omega))).trans q2, q3, q4, q5, ?_⟩
      rw [hval, ← ez, ← vz4, q6, n4]
      congr 1
      rcases ha with p | p <;> simp [p] at c ⊢ <;> simp [← c] <;> omega
  · rw [Z3.1.2.2.2.1, Z3.1.2.2.2.2.1]
    rw [ea] at c
    refine ⟨x3.1.1, (s_MW_compare m1 x3 y3).mono (fun y M4 h4 => ?_)⟩
    obtain ⟨e4, hy⟩ := h4
    subst e4
    rw [Z3.1.2.2.2.1, Z3.1.2.2.2.2.1]
    refine ⟨⟨by split at hy <;> (try split at hy) <;> omega, by split at hy <;> (try split at hy) <;> omega⟩, m1, fun q => ⟨Z3.1.1, y3.1.1, ?_⟩, fun q => ⟨Z3.1.1, x3.1.1, ?_⟩⟩
    · have hlt : wv M4 (u + 11) < wv M4 (u + 13) := by
        split at hy
        · omega
        · split at hy <;> omega
      refine (s_MW_less m1 y3 x3 (by omega) (by omega)).mono (fun M5 h5 => ?_)
      obtain ⟨n1, n2, n3, n4⟩ := h5
      have Z5 := Z3.step (c := 13) (by decide) rfl n2 n3.1
      obtain ⟨x5, vx5⟩ := x3.out n2 (by omega) (by omega)
      obtain ⟨z5, vz5⟩ := m3.out n2 (by omega) (by omega)
      have sy5 : mI M5 (u + 13) 1 < 900 := by have := n3.le y3 (by have := x3.nonneg; omega); omega
      refine ⟨n1, Z5.1.1, ?_⟩
      rw [Z5.1.2.2.2.1, Z5.1.2.2.2.2.1]
      refine ⟨x5.1.1, (s_MW_copy n1 x5.1 n3 (by omega) (by omega)).mono (fun M6 h6 => ?_)⟩
      obtain ⟨o1, o2, o3, o4⟩ := h6
      have Z6 := Z5.step (c := 11) (by decide) rfl o2 o3.1
      obtain ⟨z6, vz6⟩ := z5.out o2 (by omega) (by omega)
      have sx6 : mI M6 (u + 11) 1 < 900 := by have := o3.le n3 (by omega); omega
      have sz6 : mI M6 (u + 15) 1 < 900 := by have := z6.le m3 (by omega); omega
      refine ⟨o1, Z6.1.1, by rw [Z6.1.2.1]; exact Z6.2.1.1, ?_⟩
      refine sums_sign o1 Z6 o3 z6 sx6 sz6 (by omega) hw01 (fun M' h' => ?_)
      obtain ⟨q1, q2, q3, q4, q5, q6⟩ := h'
      refine ⟨q1, (((F3.mono (fun x q => by omega)).trans (n2.mono (fun x q => by omega))).trans (o2.mono (fun x q => by omega))).trans q2, q3, q4, q5, ?_⟩
      rw [hval, ← ez, ← vz5, ← vz6, q6, o4, n4]
      congr 1
      rcases ha with p | p <;> rcases hw01 with t | t <;> simp [p, t] at c ⊢ <;> omega
    · have hge : wv M4 (u + 13) ≤ wv M4 (u + 11) := by
        split at hy
        · omega
        · split at hy <;> omega
      refine (s_MW_less m1 x3 y3 (by omega) (by omega)).mono (fun M5 h5 => ?_)
      obtain ⟨n1, n2, n3, n4⟩ := h5
      have Z5 := Z3.step (c := 11) (by decide) rfl n2 n3.1
      have A5 := A3.1.out n2 (fun x q => by omega)
      obtain ⟨z5, vz5⟩ := m3.out n2 (by omega) (by omega)
      have sx5 : mI M5 (u + 11) 1 < 900 := by have := n3.le x3 (by have := y3.nonneg; omega); omega
      have sz5 : mI M5 (u + 15) 1 < 900 := by have := z5.le m3 (by omega); omega
      rw [A5.2.2.2.2.2, ea, Z5.1.2.1]
      refine ⟨n1, Z5.1.1, A5.1.1.1, Z5.2.1.1, ha, ?_⟩
      have hs := sums_sign (G := G) (d := d) (Q := suQ M u (sn M a * sd M b + (if m = 1 then - (sn M b * sd M a) else sn M b * sd M a)) (sd M a * sd M b)) n1 Z5 n3 z5 sx5 sz5 (by omega) ha (fun M' h' => ?_)
      · rw [Z5.1.2.1] at hs
        exact hs
      · obtain ⟨q1, q2, q3, q4, q5, q6⟩ := h'
        refine ⟨q1, ((F3.mono (fun x q => by omega)).trans (n2.mono (fun x q => by omega))).trans q2, q3, q4, q5, ?_⟩
        rw [hval, ← ez, ← vz5, q6, n4]
        congr 1
        rcases ha with p | p <;> rcases hw01 with t | t <;> simp [p, t] at c ⊢ <;> omega
end SU
end
section
/-! The reference's sums: billionths and digits. -/
section SU
variable {G : mG} {d u a b c ra rb : Nat} {M : mM}
theorem s_MU_billionths (hO : mOk M) (hZ : Sz M u) (hA : Fq M a ra) (oa : suO u a) (z1 : mI M (a + 1) 1 < 890) (z2 : mI M (a + 3) 1 < 900) (hv : wv M (a + 1) * 1000000000 / wv M (a + 3) < 2147483648) :
    Ci G y_MU_billionths (d + 3) [vr u, vr a] M (fun x M' => mOk M' ∧ FI (sS u) M M' ∧ Sz M' u ∧ x = wv M (a + 1) * 1000000000 / wv M (a + 3)) := by
  refine k_MU_billionths hO ?_
  rw [hZ.1.2.2.2.2.1]
  refine ⟨hZ.1.1, (hZ.wh 13 (by decide)).1, (s_MW_set (by omega) (by omega) ⟨by omega, by omega⟩ hO (hZ.wh 13 (by decide)) (by omega)).mono (fun M1 h1 => ?_)⟩
  obtain ⟨g1, g2, g3, g4⟩ := h1
  have Z1 := hZ.step (c := 13) (by decide) rfl g2 g3.1
  have A1 := hA.out g2 (fun x q => by omega)
  have za : mI M1 (a + 1) 1 = mI M (a + 1) 1 := by rw [g2.2.2.2.2.2.2 (a + 1) (by omega)]
  have zy : mI M1 (u + 13) 1 ≤ 2 := g3.size (k := 2) (by rw [g4]; decide)
  refine ⟨g1, Z1.1.1, A1.1.1.1, ?_⟩
  rw [Z1.1.2.2.2.1, Z1.1.2.2.2.2.1, A1.1.1.2.1]
  refine ⟨(Z1.wh 11 (by decide)).1, (s_MW_product g1 (Z1.wh 11 (by decide)) A1.1.2.1 g3 (by omega) (by omega) (by omega)).mono (fun M2 h2 => ?_)⟩
  obtain ⟨k1, k2, k3, k4⟩ := h2
  have Z2 := Z1.step (c := 11) (by decide) rfl k2 k3.1
  have A2 := A1.1.out k2 (fun x q => by omega)
  have sx : mI M2 (u + 11) 1 < 900 := by
    have h1 : wv M2 (u + 11) < 16777216 ^ ((mI M1 (a + 1) 1).toNat + (mI M1 (u + 13) 1).toNat) := by
      rw [k4, Int.pow_add]
      exact mul_lt_B A1.1.2.1.lt g3.lt A1.1.2.1.nonneg g3.nonneg
    have h2 := k3.size h1
    have h3 := A1.1.2.1.1.2.2.2.2.2.1
    have h4 := g3.1.2.2.2.2.2.1
    omega
  have sb : mI M2 (a + 3) 1 < 900 := by have := A2.1.2.2.1.le hA.2.2.1 (by rw [A2.2.2.2.2.1, A1.2.2.2.2.1]; omega); omega
  refine ⟨k1, Z2.1.1, A2.1.1.1, ?_⟩
  rw [Z2.1.2.2.2.1, A2.1.1.2.2]
  refine (s_MU_divide0 k1 Z2.1 (Z2.wh 17 (by decide)) (Z2.wh 19 (by decide)) k3 A2.1.2.2.1 (by omega) (by omega) A2.1.2.2.2.2 sx sb).mono (fun M3 h3 => ?_)
  obtain ⟨o1, o2, o3, o4, o5, o6⟩ := h3
  have Z3 : Sz M3 u := ⟨Z2.1.fi o2, Z2.2.1.fi o2, Z2.2.2.1.fi o2, fun c hc => by
    by_cases q1 : c = 17
    · rw [q1]; exact o3.1
    · by_cases q2 : c = 19
      · rw [q2]; exact o4.1
      · refine (Z2.wh c hc).out o2 ?_
        have h1 : ∀ e ∈ szL, e = 17 ∨ e = 19 ∨ e < 17 := by decide
        have h2 := h1 c hc
        omega⟩
  have eq : wv M3 (u + 17) = wv M (a + 1) * 1000000000 / wv M (a + 3) := by
    rw [o5, k4, g4, A1.2.2.2.1, A2.2.2.2.2.1, A1.2.2.2.2.1]
  have F3 : FI (sS u) M M3 := ((g2.mono (fun x q => by omega)).trans (k2.mono (fun x q => by omega))).trans (o2.mono (fun x q => by omega))
  rw [← eq] at hv ⊢
  clear eq
  refine ⟨o1, Z3.1.1, ?_⟩
  rw [Z3.1.2.2.2.2.2.2.1]
  refine ⟨o3.1.1, (s_MW_places o1 o3).mono (fun x M4 h4 => ?_)⟩
  obtain ⟨e4, p1, p2, p3, p4⟩ := h4
  subst e4
  refine ⟨⟨by omega, by omega⟩, o1, ?_⟩
  suffices H : ∀ (k : Nat) (l j : Int), l + 1 = k → l < 30000 → j = wv M4 (u + 17) / 2 ^ k → h_MU_billionths_50 G (d + 2) u j l M4 (fun x M' => mOk M' ∧ FI (sS u) M M' ∧ Sz M' u ∧ x = wv M4 (u + 17)) from
    H x.toNat (x - 1) 0 (by omega) (by omega) (Int.ediv_eq_zero_of_lt o3.nonneg p3).symm
  have n0 := o3.nonneg
  intro k
  induction k with
  | zero =>
    intro l j hk hl hj
    have hj' : j = wv M4 (u + 17) := by rw [hj]; simp
    exact k_MU_billionths_50 o1 ⟨by omega, by omega⟩ ⟨by omega, by omega⟩ ⟨fun _ => ⟨o1, F3, Z3, hj'⟩, fun c => by omega⟩
  | succ k ih =>
    intro l j hk hl hj
    have h1 := half_pow (wv M4 (u + 17)) k
    have h2 : 0 ≤ wv M4 (u + 17) / 2 ^ k := Int.ediv_nonneg n0 (Int.le_of_lt (Int.pow_pos (by decide)))
    have h3 : wv M4 (u + 17) / 2 ^ k ≤ wv M4 (u + 17) := Int.ediv_le_self _ n0
    refine k_MU_billionths_50 o1 ⟨by omega, by omega⟩ ⟨by omega, by omega⟩ ⟨fun c => by omega, fun _ => ⟨Z3.1.1, ?_⟩⟩
    rw [Z3.1.2.2.2.2.2.2.1]
    refine ⟨o3.1.1, (s_MW_bit (by omega) ⟨by omega, by omega⟩ o1 o3).mono (fun y M5 h5 => ?_)⟩
    obtain ⟨e5, hy⟩ := h5
    subst e5
    rw [show l.toNat = k by omega] at hy
    refine ⟨⟨by split at hy <;> omega, by split at hy <;> omega⟩, o1, fun v hv => ih (l + (-1)) _ (by omega) (by omega) ?_⟩
    rw [h1] at hj
    split at hy <;> split at hv <;> omega
end SU
end
end
section
section
/-! The reference's fractions. -/
def Ft (M : mM) (f r : Nat) : Prop := Fk M f ∧ Wh M (f + 1) r ∧ Wh M (f + 3) r
abbrev fS (f : Nat) : Nat → Prop := fun x => f ≤ x ∧ x ≤ f + 4
theorem Fq.ft {M : mM} {f r : Nat} (h : Fq M f r) : Ft M f r := ⟨h.1, h.2.1.1, h.2.2.1.1⟩
theorem Ft.out {S : Nat → Prop} {M M' : mM} {f r : Nat} (h : Ft M f r) (k : FI S M M') (hs : ∀ x, S x → x < f ∨ f + 4 < x) : Ft M' f r :=
  ⟨h.1.fi k, h.2.1.out k (fun q => by have := hs _ q; omega), h.2.2.out k (fun q => by have := hs _ q; omega)⟩
theorem Fc.out {S : Nat → Prop} {M M' : mM} {f r : Nat} (c : Fc M f) (h : Fq M f r) (k : FI S M M') (hs : ∀ x, S x → x < f ∨ f + 4 < x) : Fc M' f := by
  have e := h.out k hs
  unfold Fc xn at c ⊢
  rw [e.2.2.2.1, e.2.2.2.2.1, e.2.2.2.2.2]
  exact c
theorem sn_zero {M : mM} {f : Nat} : sn M f = 0 ↔ wv M (f + 1) = 0 := by
  unfold sn
  split <;> omega
section FS
variable {G : mG} {d a b r rb : Nat} {M : mM}
theorem s_MF_isZero (hO : mOk M) (hA : Fq M a r) : Ci G y_MF_isZero (d + 1) [vr a] M (fun x M' => M' = M ∧ x = if sn M a = 0 then 1 else 0) := by
  refine k_MF_isZero hO ?_
  rw [hA.1.2.1]
  refine ⟨hA.1.1, hA.2.1.1.1, (s_MW_isZero hO hA.2.1.1).mono (fun x M1 h1 => ?_)⟩
  obtain ⟨e1, hx⟩ := h1
  subst e1
  have hz := hA.2.1.zero
  have hx' : x = if sn M1 a = 0 then 1 else 0 := by
    rw [hx]
    by_cases q : mI M1 (a + 1) 1 = 0
    · rw [if_pos q, if_pos (sn_zero.2 (hz.1 q))]
    · rw [if_neg q, if_neg (fun w => q (hz.2 (sn_zero.1 w)))]
  have h01 : x = 0 ∨ x = 1 := by split at hx' <;> omega
  exact ⟨⟨by omega, by omega⟩, hO, h01, rfl, hx'⟩
theorem s_MF_set {j k : Int} (hj : i64 j) (hj2 : -9223372036854775808 < j) (hk : i64 k) (hk0 : 0 < k) (hO : mOk M) (hA : Ft M a r) (hr : 3 ≤ r) : Cv G y_MF_set (d + 1) [vr a, vl j, vl k] M (fun M' => mOk M' ∧ FI (fS a) M M' ∧ Fq M' a r ∧ sn M' a = j ∧ sd M' a = k ∧ (j = 0 → mI M' a 2 = 0)) := by
  unfold i64 at hj hk
  refine k_MF_set hO hj hk (fun v hv => ⟨hA.1.1, fun M1 e1 w hw => ?_⟩)
  have hv' : v = if 0 ≤ j then 0 else 1 := by
    rw [hv]; unfold cmpL
    by_cases q : 0 ≤ j
    · rw [if_pos q, if_pos]; split <;> (try split) <;> omega
    · rw [if_neg q, if_neg]; split <;> (try split) <;> omega
  have hw' : w = if 0 ≤ j then j else -j := by
    rw [hw]; unfold cmpL
    by_cases q : 0 ≤ j
    · rw [if_pos q, if_pos]; split <;> (try split) <;> omega
    · rw [if_neg q, if_neg]; split <;> (try split) <;> omega
  have h01 : v = 0 ∨ v = 1 := by split at hv' <;> omega
  have f1 : FI (fun x => x = a) M M1 := by rw [e1]; exact FI.ui rfl
  have o1 : mOk M1 := by rw [e1]; exact mOk_UI hO ⟨by omega, by omega⟩
  have v1 : mI M1 a 2 = v := by rw [e1, mI_UI, if_pos ⟨rfl, rfl⟩]
  have A1 : Fk M1 a := hA.1.fi f1
  have t1 := hA.2.1.out f1 (by omega)
  have b1 := hA.2.2.out f1 (by omega)
  rw [A1.2.1]
  refine ⟨t1.1, (s_MW_set (by split at hw' <;> omega) (by split at hw' <;> omega) ⟨by split at hw' <;> omega, by split at hw' <;> omega⟩ o1 t1 hr).mono (fun M2 h2 => ?_)⟩
  obtain ⟨g1, g2, g3, g4⟩ := h2
  have A2 := A1.fi g2
  have b2 := b1.out g2 (by omega)
  refine ⟨g1, A2.1, ?_⟩
  rw [A2.2.2]
  refine ⟨b2.1, (s_MW_set (by omega) (by omega) hk g1 b2 hr).mono (fun M3 h3 => ?_)⟩
  obtain ⟨k1, k2, k3, k4⟩ := h3
  obtain ⟨t3, vt3⟩ := g3.out k2 (by omega) (by omega)
  have i3 : mI M3 a 2 = v := by rw [k2.2.2.2.2.2.2 a (by omega), g2.2.2.2.2.2.2 a (by omega)]; exact v1
  refine ⟨k1, k1, ((f1.mono (fun x q => by omega)).trans (g2.mono (fun x q => by omega))).trans (k2.mono (fun x q => by omega)), ⟨A2.fi k2, t3, k3, by rw [i3]; exact h01, by omega⟩, ?_, k4, fun q => ?_⟩
  · unfold sn
    rw [i3, vt3, g4, hv', hw']
    by_cases q : 0 ≤ j
    · simp [q]
    · simp [q]
  · rw [i3, hv', if_pos (by omega)]
theorem s_MF_copy (hO : mOk M) (hA : Ft M a r) (hB : Fq M b rb) (hne : a + 4 < b ∨ b + 4 < a) (z1 : mI M (b + 1) 1 ≤ r) (z2 : mI M (b + 3) 1 ≤ r) : Cv G y_MF_copy (d + 1) [vr a, vr b] M (fun M' => mOk M' ∧ FI (fS a) M M' ∧ Fq M' a r ∧ wv M' (a + 1) = wv M (b + 1) ∧ wv M' (a + 3) = wv M (b + 3) ∧ mI M' a 2 = mI M b 2) := by
  refine k_MF_copy hO ⟨hB.1.1, hA.1.1, hB.2.2.2.1, fun M1 e1 => ?_⟩
  have f1 : FI (fun x => x = a) M M1 := by rw [e1]; exact FI.ui rfl
  have h01 := hB.2.2.2.1
  have o1 : mOk M1 := by rw [e1]; exact mOk_UI hO ⟨by omega, by omega⟩
  have v1 : mI M1 a 2 = mI M b 2 := by rw [e1, mI_UI, if_pos ⟨rfl, rfl⟩]
  have A1 : Fk M1 a := hA.1.fi f1
  have B1 := hB.out f1 (fun x q => by omega)
  have t1 := hA.2.1.out f1 (by omega)
  have b1 := hA.2.2.out f1 (by omega)
  have e2 : mI M1 (b + 1) = mI M (b + 1) := f1.2.2.2.2.2.2 _ (by omega)
  have e3 : mI M1 (b + 3) = mI M (b + 3) := f1.2.2.2.2.2.2 _ (by omega)
  rw [A1.2.1, B1.1.1.2.1]
  refine ⟨t1.1, (s_MW_copy o1 t1 B1.1.2.1 (by omega) (by rw [e2]; exact z1)).mono (fun M2 h2 => ?_)⟩
  obtain ⟨g1, g2, g3, g4⟩ := h2
  have A2 := A1.fi g2
  have B2 := B1.1.out g2 (fun x q => by omega)
  have b2 := b1.out g2 (by omega)
  have e4 : mI M2 (b + 3) = mI M1 (b + 3) := g2.2.2.2.2.2.2 _ (by omega)
  refine ⟨g1, A2.1, B2.1.1.1, ?_⟩
  rw [A2.2.2, B2.1.1.2.2]
  refine ⟨b2.1, (s_MW_copy g1 b2 B2.1.2.2.1 (by omega) (by rw [e4, e3]; exact z2)).mono (fun M3 h3 => ?_)⟩
  obtain ⟨k1, k2, k3, k4⟩ := h3
  obtain ⟨t3, vt3⟩ := g3.out k2 (by omega) (by omega)
  have i3 : mI M3 a 2 = mI M b 2 := by rw [k2.2.2.2.2.2.2 a (by omega), g2.2.2.2.2.2.2 a (by omega)]; exact v1
  have eb : wv M3 (a + 3) = wv M (b + 3) := by rw [k4, B2.2.2.2.2.1, B1.2.2.2.2.1]
  refine ⟨k1, k1, ((f1.mono (fun x q => by omega)).trans (g2.mono (fun x q => by omega))).trans (k2.mono (fun x q => by omega)), ⟨A2.fi k2, t3, k3, by rw [i3]; exact h01, by rw [eb]; exact hB.2.2.2.2⟩, by rw [vt3, g4, B1.2.2.2.1], eb, i3⟩
end FS
end
section
/-! The reference's solver: its places, and which states come to the end. -/
/-- the places of the solver at s: nothing here changes when ints change -/
def Vk (M : mM) (s : Nat) : Prop := mK M s = 17 ∧ (mR M s 0 = s + 1 ∧ mR M s 4 = s + 22 ∧ mR M s 5 = s + 23 ∧ mR M s 6 = s + 24 ∧ mR M s 7 = s + 25 ∧ mR M s 8 = s + 26 ∧ mR M s 9 = s + 27 ∧ mR M s 10 = s + 28)
  ∧ (mR M s 11 = s + 29 ∧ mR M s 12 = s + 30 ∧ mR M s 13 = s + 31 ∧ mR M s 14 = s + 32 ∧ mR M s 15 = s + 33 ∧ mR M s 16 = s + 34 ∧ mR M s 18 = s + 35 ∧ mR M s 19 = s + 36 ∧ mR M s 20 = s + 37)
  ∧ (mR M s 21 = s + 38 ∧ mR M s 22 = s + 39 ∧ mR M s 23 = s + 40 ∧ mR M s 25 = s + 41 ∧ mR M s 26 = s + 42 ∧ mR M s 27 = s + 47 ∧ mR M s 28 = s + 52 ∧ mR M s 29 = s + 57 ∧ mR M s 30 = s + 62 ∧ mR M s 31 = s + 67)
  ∧ (mK M (s + 22) = 30 ∧ mK M (s + 23) = 30 ∧ mK M (s + 24) = 30 ∧ mK M (s + 25) = 30 ∧ mK M (s + 26) = 30 ∧ mK M (s + 27) = 30 ∧ mK M (s + 28) = 30)
  ∧ (mK M (s + 29) = 36 ∧ mK M (s + 30) = 31 ∧ mK M (s + 31) = 36 ∧ mK M (s + 32) = 30 ∧ mK M (s + 33) = 30 ∧ mK M (s + 34) = 30 ∧ mK M (s + 35) = 30 ∧ mK M (s + 36) = 31 ∧ mK M (s + 37) = 31 ∧ mK M (s + 38) = 36 ∧ mK M (s + 39) = 30 ∧ mK M (s + 40) = 30 ∧ mK M (s + 41) = 36 ∧ mK M (s + 67) = 30)
  ∧ (mN M (s + 22) = 513 ∧ mN M (s + 23) = 514 ∧ mN M (s + 24) = 4200 ∧ mN M (s + 25) = 4201 ∧ mN M (s + 26) = 4096 ∧ mN M (s + 27) = 4096 ∧ mN M (s + 28) = 4096)
  ∧ (mN M (s + 29) = 1536 ∧ mN M (s + 30) = 3 ∧ mN M (s + 31) = 512 ∧ mN M (s + 32) = 512 ∧ mN M (s + 33) = 512 ∧ mN M (s + 34) = 512 ∧ mN M (s + 35) = 512 ∧ mN M (s + 36) = 512 ∧ mN M (s + 37) = 512 ∧ mN M (s + 38) = 512 ∧ mN M (s + 39) = 40 ∧ mN M (s + 40) = 512 ∧ mN M (s + 41) = 1640 ∧ mN M (s + 67) = 400)
  ∧ (∀ i j, i < 512 → j < 3 → mR M (s + 29) (3 * i + j) = s + 68 + 25 * i + 5 * j) ∧ (∀ i, i < 512 → mR M (s + 31) i = s + 83 + 25 * i) ∧ (∀ i, i < 512 → mR M (s + 38) i = s + 88 + 25 * i) ∧ (∀ i, i < 1640 → mR M (s + 41) i = s + 12868 + 5 * i)
theorem Vk.fi {S : Nat → Prop} {M M' : mM} {s : Nat} (h : Vk M s) (f : FI S M M') : Vk M' s := by
  obtain ⟨f1, f2, f3, -⟩ := f
  unfold Vk at h ⊢
  rw [f1, f2, f3]
  exact h
theorem Vk.k0 {M : mM} {s : Nat} (h : Vk M s) : mK M s = 17 := h.1
theorem Vk.r0 {M : mM} {s : Nat} (h : Vk M s) : mR M s 0 = s + 1 := h.2.1.1
theorem Vk.r4 {M : mM} {s : Nat} (h : Vk M s) : mR M s 4 = s + 22 := h.2.1.2.1
theorem Vk.r5 {M : mM} {s : Nat} (h : Vk M s) : mR M s 5 = s + 23 := h.2.1.2.2.1
theorem Vk.r6 {M : mM} {s : Nat} (h : Vk M s) : mR M s 6 = s + 24 := h.2.1.2.2.2.1
theorem Vk.r7 {M : mM} {s : Nat} (h : Vk M s) : mR M s 7 = s + 25 := h.2.1.2.2.2.2.1
theorem Vk.r8 {M : mM} {s : Nat} (h : Vk M s) : mR M s 8 = s + 26 := h.2.1.2.2.2.2.2.1
theorem Vk.r9 {M : mM} {s : Nat} (h : Vk M s) : mR M s 9 = s + 27 := h.2.1.2.2.2.2.2.2.1
theorem Vk.r10 {M : mM} {s : Nat} (h : Vk M s) : mR M s 10 = s + 28 := h.2.1.2.2.2.2.2.2.2
theorem Vk.r11 {M : mM} {s : Nat} (h : Vk M s) : mR M s 11 = s + 29 := h.2.2.1.1
theorem Vk.r12 {M : mM} {s : Nat} (h : Vk M s) : mR M s 12 = s + 30 := h.2.2.1.2.1
theorem Vk.r13 {M : mM} {s : Nat} (h : Vk M s) : mR M s 13 = s + 31 := h.2.2.1.2.2.1
theorem Vk.r14 {M : mM} {s : Nat} (h : Vk M s) : mR M s 14 = s + 32 := h.2.2.1.2.2.2.1
theorem Vk.r15 {M : mM} {s : Nat} (h : Vk M s) : mR M s 15 = s + 33 := h.2.2.1.2.2.2.2.1
theorem Vk.r16 {M : mM} {s : Nat} (h : Vk M s) : mR M s 16 = s + 34 := h.2.2.1.2.2.2.2.2.1
theorem Vk.r18 {M : mM} {s : Nat} (h : Vk M s) : mR M s 18 = s + 35 := h.2.2.1.2.2.2.2.2.2.1
theorem Vk.r19 {M : mM} {s : Nat} (h : Vk M s) : mR M s 19 = s + 36 := h.2.2.1.2.2.2.2.2.2.2.1
theorem Vk.r21 {M : mM} {s : Nat} (h : Vk M s) : mR M s 21 = s + 38 := h.2.2.2.1.1
theorem Vk.r22 {M : mM} {s : Nat} (h : Vk M s) : mR M s 22 = s + 39 := h.2.2.2.1.2.1
theorem Vk.r23 {M : mM} {s : Nat} (h : Vk M s) : mR M s 23 = s + 40 := h.2.2.2.1.2.2.1
theorem Vk.r25 {M : mM} {s : Nat} (h : Vk M s) : mR M s 25 = s + 41 := h.2.2.2.1.2.2.2.1
theorem Vk.r26 {M : mM} {s : Nat} (h : Vk M s) : mR M s 26 = s + 42 := h.2.2.2.1.2.2.2.2.1
theorem Vk.r27 {M : mM} {s : Nat} (h : Vk M s) : mR M s 27 = s + 47 := h.2.2.2.1.2.2.2.2.2.1
theorem Vk.r28 {M : mM} {s : Nat} (h : Vk M s) : mR M s 28 = s + 52 := h.2.2.2.1.2.2.2.2.2.2.1
theorem Vk.r29 {M : mM} {s : Nat} (h : Vk M s) : mR M s 29 = s + 57 := h.2.2.2.1.2.2.2.2.2.2.2.1
theorem Vk.r30 {M : mM} {s : Nat} (h : Vk M s) : mR M s 30 = s + 62 := h.2.2.2.1.2.2.2.2.2.2.2.2.1
theorem Vk.r31 {M : mM} {s : Nat} (h : Vk M s) : mR M s 31 = s + 67 := h.2.2.2.1.2.2.2.2.2.2.2.2.2
theorem Vk.k22 {M : mM} {s : Nat} (h : Vk M s) : mK M (s + 22) = 30 := h.2.2.2.2.1.1
theorem Vk.k23 {M : mM} {s : Nat} (h : Vk M s) : mK M (s + 23) = 30 := h.2.2.2.2.1.2.1
theorem Vk.k24 {M : mM} {s : Nat} (h : Vk M s) : mK M (s + 24) = 30 := h.2.2.2.2.1.2.2.1
theorem Vk.k25 {M : mM} {s : Nat} (h : Vk M s) : mK M (s + 25) = 30 := h.2.2.2.2.1.2.2.2.1
theorem Vk.k26 {M : mM} {s : Nat} (h : Vk M s) : mK M (s + 26) = 30 := h.2.2.2.2.1.2.2.2.2.1
theorem Vk.k27 {M : mM} {s : Nat} (h : Vk M s) : mK M (s + 27) = 30 := h.2.2.2.2.1.2.2.2.2.2.1
theorem Vk.k28 {M : mM} {s : Nat} (h : Vk M s) : mK M (s + 28) = 30 := h.2.2.2.2.1.2.2.2.2.2.2
theorem Vk.k29 {M : mM} {s : Nat} (h : Vk M s) : mK M (s + 29) = 36 := h.2.2.2.2.2.1.1
theorem Vk.k30 {M : mM} {s : Nat} (h : Vk M s) : mK M (s + 30) = 31 := h.2.2.2.2.2.1.2.1
theorem Vk.k31 {M : mM} {s : Nat} (h : Vk M s) : mK M (s + 31) = 36 := h.2.2.2.2.2.1.2.2.1
theorem Vk.k32 {M : mM} {s : Nat} (h : Vk M s) : mK M (s + 32) = 30 := h.2.2.2.2.2.1.2.2.2.1
theorem Vk.k33 {M : mM} {s : Nat} (h : Vk M s) : mK M (s + 33) = 30 := h.2.2.2.2.2.1.2.2.2.2.1
theorem Vk.k34 {M : mM} {s : Nat} (h : Vk M s) : mK M (s + 34) = 30 := h.2.2.2.2.2.1.2.2.2.2.2.1
theorem Vk.k35 {M : mM} {s : Nat} (h : Vk M s) : mK M (s + 35) = 30 := h.2.2.2.2.2.1.2.2.2.2.2.2.1
theorem Vk.k36 {M : mM} {s : Nat} (h : Vk M s) : mK M (s + 36) = 31 := h.2.2.2.2.2.1.2.2.2.2.2.2.2.1
theorem Vk.k38 {M : mM} {s : Nat} (h : Vk M s) : mK M (s + 38) = 36 := h.2.2.2.2.2.1.2.2.2.2.2.2.2.2.2.1
theorem Vk.k39 {M : mM} {s : Nat} (h : Vk M s) : mK M (s + 39) = 30 := h.2.2.2.2.2.1.2.2.2.2.2.2.2.2.2.2.1
theorem Vk.k40 {M : mM} {s : Nat} (h : Vk M s) : mK M (s + 40) = 30 := h.2.2.2.2.2.1.2.2.2.2.2.2.2.2.2.2.2.1
theorem Vk.k41 {M : mM} {s : Nat} (h : Vk M s) : mK M (s + 41) = 36 := h.2.2.2.2.2.1.2.2.2.2.2.2.2.2.2.2.2.2.1
theorem Vk.k67 {M : mM} {s : Nat} (h : Vk M s) : mK M (s + 67) = 30 := h.2.2.2.2.2.1.2.2.2.2.2.2.2.2.2.2.2.2.2
theorem Vk.n22 {M : mM} {s : Nat} (h : Vk M s) : mN M (s + 22) = 513 := h.2.2.2.2.2.2.1.1
theorem Vk.n23 {M : mM} {s : Nat} (h : Vk M s) : mN M (s + 23) = 514 := h.2.2.2.2.2.2.1.2.1
theorem Vk.n24 {M : mM} {s : Nat} (h : Vk M s) : mN M (s + 24) = 4200 := h.2.2.2.2.2.2.1.2.2.1
theorem Vk.n25 {M : mM} {s : Nat} (h : Vk M s) : mN M (s + 25) = 4201 := h.2.2.2.2.2.2.1.2.2.2.1
theorem Vk.n26 {M : mM} {s : Nat} (h : Vk M s) : mN M (s + 26) = 4096 := h.2.2.2.2.2.2.1.2.2.2.2.1
theorem Vk.n27 {M : mM} {s : Nat} (h : Vk M s) : mN M (s + 27) = 4096 := h.2.2.2.2.2.2.1.2.2.2.2.2.1
theorem Vk.n28 {M : mM} {s : Nat} (h : Vk M s) : mN M (s + 28) = 4096 := h.2.2.2.2.2.2.1.2.2.2.2.2.2
theorem Vk.n29 {M : mM} {s : Nat} (h : Vk M s) : mN M (s + 29) = 1536 := h.2.2.2.2.2.2.2.1.1
theorem Vk.n30 {M : mM} {s : Nat} (h : Vk M s) : mN M (s + 30) = 3 := h.2.2.2.2.2.2.2.1.2.1
theorem Vk.n31 {M : mM} {s : Nat} (h : Vk M s) : mN M (s + 31) = 512 := h.2.2.2.2.2.2.2.1.2.2.1
theorem Vk.n32 {M : mM} {s : Nat} (h : Vk M s) : mN M (s + 32) = 512 := h.2.2.2.2.2.2.2.1.2.2.2.1
theorem Vk.n33 {M : mM} {s : Nat} (h : Vk M s) : mN M (s + 33) = 512 := h.2.2.2.2.2.2.2.1.2.2.2.2.1
theorem Vk.n34 {M : mM} {s : Nat} (h : Vk M s) : mN M (s + 34) = 512 := h.2.2.2.2.2.2.2.1.2.2.2.2.2.1
theorem Vk.n35 {M : mM} {s : Nat} (h : Vk M s) : mN M (s + 35) = 512 := h.2.2.2.2.2.2.2.1.2.2.2.2.2.2.1
theorem Vk.n36 {M : mM} {s : Nat} (h : Vk M s) : mN M (s + 36) = 512 := h.2.2.2.2.2.2.2.1.2.2.2.2.2.2.2.1
theorem Vk.n38 {M : mM} {s : Nat} (h : Vk M s) : mN M (s + 38) = 512 := h.2.2.2.2.2.2.2.1.2.2.2.2.2.2.2.2.2.1
theorem Vk.n39 {M : mM} {s : Nat} (h : Vk M s) : mN M (s + 39) = 40 := h.2.2.2.2.2.2.2.1.2.2.2.2.2.2.2.2.2.2.1
theorem Vk.n40 {M : mM} {s : Nat} (h : Vk M s) : mN M (s + 40) = 512 := h.2.2.2.2.2.2.2.1.2.2.2.2.2.2.2.2.2.2.2.1
theorem Vk.n41 {M : mM} {s : Nat} (h : Vk M s) : mN M (s + 41) = 1640 := h.2.2.2.2.2.2.2.1.2.2.2.2.2.2.2.2.2.2.2.2.1
theorem Vk.n67 {M : mM} {s : Nat} (h : Vk M s) : mN M (s + 67) = 400 := h.2.2.2.2.2.2.2.1.2.2.2.2.2.2.2.2.2.2.2.2.2
theorem Vk.f29 {M : mM} {s : Nat} (h : Vk M s) : ∀ i j, i < 512 → j < 3 → mR M (s + 29) (3 * i + j) = s + 68 + 25 * i + 5 * j := h.2.2.2.2.2.2.2.2.1
theorem Vk.f31 {M : mM} {s : Nat} (h : Vk M s) : ∀ i, i < 512 → mR M (s + 31) i = s + 83 + 25 * i := h.2.2.2.2.2.2.2.2.2.1
theorem Vk.f38 {M : mM} {s : Nat} (h : Vk M s) : ∀ i, i < 512 → mR M (s + 38) i = s + 88 + 25 * i := h.2.2.2.2.2.2.2.2.2.2.1
theorem Vk.f41 {M : mM} {s : Nat} (h : Vk M s) : ∀ i, i < 1640 → mR M (s + 41) i = s + 12868 + 5 * i := h.2.2.2.2.2.2.2.2.2.2.2
/-- the game told to the solver is sound -/
def GW (M : mM) (s : Nat) : Prop := 0 ≤ mI M s 1 ∧ mI M s 1 ≤ 512 ∧ mI M s 2 ≤ 4200 ∧ mI M s 3 ≤ 4096 ∧ mI M (s + 23) 0 = 0 ∧ mI M (s + 25) 0 = 0
  ∧ (∀ i j : Nat, i ≤ j → (j : Int) ≤ mI M s 1 → mI M (s + 23) i ≤ mI M (s + 23) j) ∧ mI M (s + 23) (mI M s 1).toNat = mI M s 2
  ∧ (∀ i j : Nat, i ≤ j → (j : Int) ≤ mI M s 2 → mI M (s + 25) i ≤ mI M (s + 25) j) ∧ mI M (s + 25) (mI M s 2).toNat = mI M s 3
  ∧ (∀ b : Nat, (b : Int) < mI M s 3 → 0 ≤ mI M (s + 26) b ∧ mI M (s + 26) b < mI M s 1)
theorem GW.out {S : Nat → Prop} {M M' : mM} {s : Nat} (h : GW M s) (f : FI S M M') (h0 : ¬ S s) (h1 : ∀ x, s + 23 ≤ x → x ≤ s + 26 → ¬ S x) : GW M' s := by
  obtain ⟨-, -, -, -, -, -, f⟩ := f
  unfold GW at h ⊢
  rw [f s h0, f (s + 23) (h1 _ (by omega) (by omega)), f (s + 25) (h1 _ (by omega) (by omega)), f (s + 26) (h1 _ (by omega) (by omega))]
  exact h
/-- where the commands of state i begin, and end -/
theorem GW.cmd {M : mM} {s : Nat} (h : GW M s) {i : Nat} (hi : (i : Int) < mI M s 1) : 0 ≤ mI M (s + 23) i ∧ mI M (s + 23) i ≤ mI M (s + 23) (i + 1) ∧ mI M (s + 23) (i + 1) ≤ mI M s 2 := by
  obtain ⟨h1, h2, h3, h4, h5, h6, h7, h8, -⟩ := h
  have a1 := h7 0 i (by omega) (by omega)
  have a2 := h7 i (i + 1) (by omega) (by omega)
  have a3 := h7 (i + 1) (mI M s 1).toNat (by omega) (by omega)
  omega
theorem GW.brn {M : mM} {s : Nat} (h : GW M s) {c : Nat} (hc : (c : Int) < mI M s 2) : 0 ≤ mI M (s + 25) c ∧ mI M (s + 25) c ≤ mI M (s + 25) (c + 1) ∧ mI M (s + 25) (c + 1) ≤ mI M s 3 := by
  obtain ⟨h1, h2, h3, h4, h5, h6, h7, h8, h9, h10, -⟩ := h
  have a1 := h9 0 c (by omega) (by omega)
  have a2 := h9 c (c + 1) (by omega) (by omega)
  have a3 := h9 (c + 1) (mI M s 2).toNat (by omega) (by omega)
  omega
/-- how many commands -/
def mny (M : mM) (s i : Nat) : Int := mI M (s + 23) (i + 1) - mI M (s + 23) i
def mayP (M : mM) (s i k : Nat) : Prop := mI M s 17 ≠ mI M (s + 22) i ∨ mI M (s + 32) i = k
def useP (M : mM) (s i k : Nat) (l : Int) : Prop := ((mI M (s + 22) i ≠ 1 ∨ l = 0) ∧ mayP M s i k) ∨ (¬ (mI M (s + 22) i ≠ 1 ∨ l = 0) ∧ mI M (s + 35) i = k)
/-- command k of state i may lead to a state in T -/
def leadQ (T : Nat → Prop) (M : mM) (s i k : Nat) : Prop := ∃ b : Nat, mI M (s + 25) ((mI M (s + 23) i).toNat + k) ≤ b ∧ (b : Int) < mI M (s + 25) ((mI M (s + 23) i).toNat + k + 1) ∧ T (mI M (s + 26) b).toNat
def comesQ (T : Nat → Prop) (M : mM) (s i : Nat) (l : Int) : Prop := (mI M (s + 22) i = 1 ∧ ∃ k : Nat, (k : Int) < mny M s i ∧ useP M s i k l ∧ leadQ T M s i k) ∨ (mI M (s + 22) i = 2 ∧ 0 < mny M s i ∧ ∀ k : Nat, (k : Int) < mny M s i → useP M s i k l → leadQ T M s i k)
abbrev mkd (M : mM) (s : Nat) : Nat → Prop := fun j => mI M (s + 36) j ≠ 0
section VS
variable {G : mG} {d s : Nat} {M : mM}
theorem s_MS_many {i : Nat} (hO : mOk M) (hV : Vk M s) (hG : GW M s) (hi : (i : Int) < mI M s 1) : Ci G y_MS_many d [vr s, vi i] M (fun x M' => M' = M ∧ x = mny M s i) := by
  have h2 := hG.2.1
  refine k_MS_many hO ⟨by omega, by omega⟩ ?_
  rw [hV.r5, hV.n23]
  refine ⟨hV.k0, hV.k23, by omega, by omega, rfl, ?_⟩
  rw [show ((i : Int) + 1).toNat = i + 1 by omega, Int.toNat_natCast]
  rfl
theorem s_MS_may {i k : Nat} (hk : (k : Int) < 100000) (hO : mOk M) (hV : Vk M s) (hG : GW M s) (hi : (i : Int) < mI M s 1) : Ci G y_MS_may d [vr s, vi i, vi k] M (fun x M' => M' = M ∧ (x = 0 ∨ x = 1) ∧ (x ≠ 0 ↔ mayP M s i k)) := by
  have h2 := hG.2.1
  refine k_MS_may hO ⟨by omega, by omega⟩ ⟨by omega, by omega⟩ ?_
  rw [hV.r4, hV.r14, hV.n22, hV.n32, Int.toNat_natCast]
  refine ⟨hV.k0, hV.k22, by omega, fun _ => ⟨hV.k32, by omega⟩, fun v hv => ⟨rfl, by split at hv <;> omega, ?_⟩⟩
  unfold mayP
  by_cases c : ¬ mI M s 17 = mI M (s + 22) i ∨ mI M (s + 32) i = k
  · rw [if_pos c] at hv
    exact ⟨fun _ => c, fun _ => by omega⟩
  · rw [if_neg c] at hv
    exact ⟨fun q => by omega, fun q => absurd q c⟩
theorem s_MS_leadsIn {i k : Nat} (hO : mOk M) (hV : Vk M s) (hG : GW M s) (hi : (i : Int) < mI M s 1) (hk : (k : Int) < mny M s i) : Ci G y_MS_leadsIn d [vr s, vi i, vi k] M (fun x M' => M' = M ∧ (x = 0 ∨ x = 1) ∧ (x ≠ 0 ↔ leadQ (mkd M s) M s i k)) := by
  have hc := hG.cmd hi
  unfold mny at hk
  have hb := hG.brn (c := (mI M (s + 23) i).toNat + k) (by omega)
  have h2 := hG.2.1
  have h3 := hG.2.2.1
  have h4 := hG.2.2.2.1
  have ht := hG.2.2.2.2.2.2.2.2.2.2
  refine k_MS_leadsIn hO ⟨by omega, by omega⟩ ⟨by omega, by omega⟩ ?_
  rw [hV.r5, hV.r7, hV.n23, hV.n25, Int.toNat_natCast]
  have ec : (mI M (s + 23) i + (k : Int)).toNat = (mI M (s + 23) i).toNat + k := by omega
  have ec1 : (mI M (s + 23) i + (k : Int) + 1).toNat = (mI M (s + 23) i).toNat + k + 1 := by omega
  rw [ec]
  refine ⟨hV.k0, hV.k23, by omega, hV.k25, by omega, ?_⟩
  suffices H : ∀ (n : Nat) (f l : Int), mI M (s + 25) ((mI M (s + 23) i).toNat + k + 1) - l = n → mI M (s + 25) ((mI M (s + 23) i).toNat + k) ≤ l → (f = 0 ∨ f = 1) → (f ≠ 0 ↔ ∃ b : Nat, mI M (s + 25) ((mI M (s + 23) i).toNat + k) ≤ b ∧ (b : Int) < l ∧ mkd M s (mI M (s + 26) b).toNat) → h_MS_leadsIn_20 G d s (mI M (s + 23) i + k) f l M (fun x M' => M' = M ∧ (x = 0 ∨ x = 1) ∧ (x ≠ 0 ↔ leadQ (mkd M s) M s i k)) from
    H _ 0 _ (Int.toNat_of_nonneg (by omega)).symm (by omega) (Or.inl rfl) ⟨fun q => absurd rfl q, fun ⟨b, b1, b2, _⟩ => by omega⟩
  intro n
  induction n with
  | zero =>
    intro f l hn hl hf hq
    refine k_MS_leadsIn_20 hO ⟨by omega, by omega⟩ ⟨by omega, by omega⟩ ⟨by omega, by omega⟩ ?_
    rw [hV.r7, hV.n25, ec1]
    refine ⟨hV.k0, hV.k25, by omega, fun _ => ⟨hf, rfl, hf, ?_⟩, fun c => by omega⟩
    rw [hq]
    unfold leadQ
    have e : l = mI M (s + 25) ((mI M (s + 23) i).toNat + k + 1) := by omega
    rw [e]
  | succ n ih =>
    intro f l hn hl hf hq
    have htl := ht l.toNat (by omega)
    refine k_MS_leadsIn_20 hO ⟨by omega, by omega⟩ ⟨by omega, by omega⟩ ⟨by omega, by omega⟩ ?_
    rw [hV.r7, hV.r8, hV.r19, hV.n25, hV.n26, hV.n36, ec1]
    refine ⟨hV.k0, hV.k25, by omega, fun c => by omega, fun _ => ⟨fun _ => ⟨hV.k26, by omega, hV.k36, by omega⟩, fun v hv => ih v (l + 1) (by omega) (by omega) (by split at hv <;> omega) ?_⟩⟩
    by_cases c : f = 0 ∧ mI M (s + 36) (mI M (s + 26) l.toNat).toNat = 0
    · rw [if_pos c] at hv
      refine ⟨fun q => by omega, fun ⟨b, b1, b2, b3⟩ => ?_⟩
      by_cases z : (b : Int) < l
      · exact absurd c.1 (hq.2 ⟨b, b1, z, b3⟩)
      · have : b = l.toNat := by omega
        rw [this] at b3
        exact absurd c.2 b3
    · rw [if_neg c] at hv
      refine ⟨fun _ => ?_, fun _ => by omega⟩
      by_cases z : f = 0
      · exact ⟨l.toNat, by omega, by omega, fun q => c ⟨z, q⟩⟩
      · obtain ⟨b, b1, b2, b3⟩ := hq.1 z
        exact ⟨b, b1, by omega, b3⟩
end VS
end
end
