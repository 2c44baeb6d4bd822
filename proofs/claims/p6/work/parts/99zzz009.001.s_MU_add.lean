section
section
variable {G : mG} {d u a b ra rb : Nat} {M : mM}
theorem s_MU_add {m : Int} (hm : m = 0 ∨ m = 1) (hO : mOk M) (hZ : Sz M u) (hA : Fq M a ra) (hB : Fq M b rb) (oa : suO u a) (ob : suO u b)
    (z1 : mI M (a + 1) 1 + mI M (b + 3) 1 < 899) (z2 : mI M (b + 1) 1 + mI M (a + 3) 1 < 899) (z3 : mI M (a + 3) 1 + mI M (b + 3) 1 < 900) :
    Cv G y_MU_add (d + 4) [vr u, vr a, vr b, vi m] M (suQ M u (sn M a * sd M b + (if m = 1 then - (sn M b * sd M a) else sn M b * sd M a)) (sd M a * sd M b)) := by
  refine k_MU_add hO ⟨by omega, by omega⟩ ⟨hB.1.1, fun w hw => ?_⟩
  rw [hZ.1.2.2.2.1, hA.1.2.1, hB.1.2.2]
  refine ⟨hZ.1.1, hA.1.1, (hZ.wh 11 (by decide)).1, (s_MW_product hO (hZ.wh 11 (by decide)) hA.2.1 hB.2.2.1 (by omega) (by omega) (by omega)).mono (fun M1 h1 => ?_)⟩
  obtain ⟨g1, g2, g3, g4⟩ := h1
  have Z1 := hZ.step (c := 11) (by decide) rfl g2 g3.1
  have A1 := hA.out g2 (fun x q => by omega)
  have B1 := hB.out g2 (fun x q => by omega)
  have za : mI M1 (a + 3) 1 = mI M (a + 3) 1 := by rw [g2.2.2.2.2.2.2 (a + 3) (by omega)]
  have zb : mI M1 (b + 1) 1 = mI M (b + 1) 1 := by rw [g2.2.2.2.2.2.2 (b + 1) (by omega)]
  have zb3 : mI M1 (b + 3) 1 = mI M (b + 3) 1 := by rw [g2.2.2.2.2.2.2 (b + 3) (by omega)]
  refine ⟨g1, Z1.1.1, B1.1.1.1, A1.1.1.1, ?_⟩
  rw [Z1.1.2.2.2.2.1, A1.1.1.2.2, B1.1.1.2.1]
  refine ⟨(Z1.wh 13 (by decide)).1, (s_MW_product g1 (Z1.wh 13 (by decide)) B1.1.2.1 A1.1.2.2.1 (by omega) (by omega) (by omega)).mono (fun M2 h2 => ?_)⟩
  obtain ⟨k1, k2, k3, k4⟩ := h2
  have Z2 := Z1.step (c := 13) (by decide) rfl k2 k3.1
  have A2 := A1.1.out k2 (fun x q => by omega)
  have B2 := B1.1.out k2 (fun x q => by omega)
  obtain ⟨x2, vx2⟩ := g3.out k2 (by omega) (by omega)
  have za2 : mI M2 (a + 3) 1 = mI M (a + 3) 1 := by rw [k2.2.2.2.2.2.2 (a + 3) (by omega)]; exact za
  have zb2 : mI M2 (b + 3) 1 = mI M (b + 3) 1 := by rw [k2.2.2.2.2.2.2 (b + 3) (by omega)]; exact zb3
  refine ⟨k1, Z2.1.1, A2.1.1.1, B2.1.1.1, ?_⟩
  rw [Z2.1.2.2.2.2.2.1, A2.1.1.2.2, B2.1.1.2.2]
  refine ⟨(Z2.wh 15 (by decide)).1, (s_MW_product k1 (Z2.wh 15 (by decide)) A2.1.2.2.1 B2.1.2.2.1 (by omega) (by omega) (by omega)).mono (fun M3 h3 => ?_)⟩
  obtain ⟨m1, m2, m3, m4⟩ := h3
  have Z3 := Z2.step (c := 15) (by decide) rfl m2 m3.1
  have A3 := A2.1.out m2 (fun x q => by omega)
  have B3 := B2.1.out m2 (fun x q => by omega)
  obtain ⟨x3, vx3⟩ := x2.out m2 (by omega) (by omega)
  obtain ⟨y3, vy3⟩ := k3.out m2 (by omega) (by omega)
  have ex : wv M3 (u + 11) = wv M (a + 1) * sd M b := vx3.trans (vx2.trans g4)
  have ey : wv M3 (u + 13) = wv M (b + 1) * sd M a := by rw [vy3, k4, B1.2.2.2.1, A1.2.2.2.2.1]; rfl
  have ez : wv M3 (u + 15) = sd M a * sd M b := by rw [m4, A2.2.2.2.2.1, B2.2.2.2.2.1, A1.2.2.2.2.1, B1.2.2.2.2.1]; rfl
  have ez0 : 0 < wv M3 (u + 15) := by rw [ez]; exact Int.mul_pos hA.2.2.2.2 hB.2.2.2.2
  have ea : mI M3 a = mI M a := A3.2.2.2.2.2.trans (A2.2.2.2.2.2.trans A1.2.2.2.2.2)
  have sx : mI M3 (u + 11) 1 ≤ 898 := by
    have h1 : wv M3 (u + 11) < 16777216 ^ ((mI M (a + 1) 1).toNat + (mI M (b + 3) 1).toNat) := by
      rw [ex, Int.pow_add]
      exact mul_lt_B hA.2.1.lt hB.2.2.1.lt hA.2.1.nonneg hB.2.2.1.nonneg
    have h2 := x3.size h1
    have h3 := hA.2.1.1.2.2.2.2.2.1
    have h4 := hB.2.2.1.1.2.2.2.2.2.1
    omega
  have sy : mI M3 (u + 13) 1 ≤ 898 := by
    have h1 : wv M3 (u + 13) < 16777216 ^ ((mI M (b + 1) 1).toNat + (mI M (a + 3) 1).toNat) := by
      rw [ey, Int.pow_add]
      exact mul_lt_B hB.2.1.lt hA.2.2.1.lt hB.2.1.nonneg hA.2.2.1.nonneg
    have h2 := y3.size h1
    have h3 := hB.2.1.1.2.2.2.2.2.1
    have h4 := hA.2.2.1.1.2.2.2.2.2.1
    omega
  have sz : mI M3 (u + 15) 1 < 900 := by
    have h1 : wv M3 (u + 15) < 16777216 ^ ((mI M (a + 3) 1).toNat + (mI M (b + 3) 1).toNat) := by
      rw [ez, Int.pow_add]
      exact mul_lt_B hA.2.2.1.lt hB.2.2.1.lt hA.2.2.1.nonneg hB.2.2.1.nonneg
    have h2 := m3.size h1
    have h3 := hA.2.2.1.1.2.2.2.2.2.1
    have h4 := hB.2.2.1.1.2.2.2.2.2.1
    omega
  have F3 : FI (fun x => u + 11 ≤ x ∧ x ≤ u + 16) M M3 := ((g2.mono (fun x q => by omega)).trans (k2.mono (fun x q => by omega))).trans (m2.mono (fun x q => by omega))
  have hw01 : w = 0 ∨ w = 1 := by split at hw <;> omega
  have ha := hA.2.2.2.1
  have hb := hB.2.2.2.1
  -- the value to be reached
  have hval : sn M a * sd M b + (if m = 1 then - (sn M b * sd M a) else sn M b * sd M a) = (if mI M a 2 = 1 then - wv M3 (u + 11) else wv M3 (u + 11)) + (if w = 1 then - wv M3 (u + 13) else wv M3 (u + 13)) := by
    rw [sn_mul, sn_mul, ← ex, ← ey]
    congr 1
    rcases hb with q | q <;> rcases hm with p | p <;> simp [p, q] at hw ⊢ <;> simp [hw]
  refine ⟨m1, A3.1.1.1, fun c => ⟨Z3.1.1, ?_⟩, fun c => ⟨Z3.1.1, ?_⟩⟩
  · rw [Z3.1.2.2.2.1, Z3.1.2.2.2.2.1]
    refine ⟨x3.1.1, (s_MW_add m1 x3 y3 (by omega) (by omega)).mono (fun M4 h4 => ?_)⟩
    obtain ⟨n1, n2, n3, n4⟩ := h4
    have Z4 := Z3.step (c := 11) (by decide) rfl n2 n3.1
    have A4 := A3.1.out n2 (fun x q => by omega)
    obtain ⟨z4, vz4⟩ := m3.out n2 (by omega) (by omega)
    have sz4 : mI M4 (u + 15) 1 < 900 := by have := z4.le m3 (by omega); omega
    have sx4 : mI M4 (u + 11) 1 < 900 := by
      have h1 : wv M4 (u + 11) < 16777216 ^ 899 := by
        have h2 := x3.lt
        have h3 := y3.lt
        have h4 := pow_mono (m := (mI M3 (u + 11) 1).toNat) (n := 898) (by omega)
        have h5 := pow_mono (m := (mI M3 (u + 13) 1).toNat) (n := 898) (by omega)
        have h6 : (16777216 : Int) ^ 899 = 16777216 ^ 898 * 16777216 := Int.pow_succ _ _
        have h7 := B_pos 898
        rw [n4]
        generalize (16777216 : Int) ^ 898 = P at *
        generalize (16777216 : Int) ^ 899 = P2 at *
        omega
      have := n3.size h1
      omega
    rw [A4.2.2.2.2.2, ea, Z4.1.2.1]
    rw [ea] at c
    refine ⟨n1, Z4.1.1, A4.1.1.1, Z4.2.1.1, ha, ?_⟩
    have hs := sums_sign (G := G) (d := d) (Q := suQ M u (sn M a * sd M b + (if m = 1 then - (sn M b * sd M a) else sn M b * sd M a)) (sd M a * sd M b)) n1 Z4 n3 z4 sx4 sz4 (by omega) ha (fun M' h' => ?_)
    · rw [Z4.1.2.1] at hs
      exact hs
    · obtain ⟨q1, q2, q3, q4, q5, q6⟩ := h'
      refine ⟨q1, ((F3.mono (fun x q => by omega)).trans (n2.mono (fun x q => by omega))).trans q2, q3, q4, q5, ?_⟩
      rw [hval, ← ez, ← vz4, q6, n4]
      congr 1
      rcases ha with p | p <;> simp [p] at c ⊢ <;> simp [← c] <;> omega
  · rw [Z3.1.2.2.2.1, Z3.1.2.2.2.2.1]
    rw [ea] at c
    refine ⟨x3.1.1, (s_MW_compare m1 x3 y3).mono (fun y M4 h4 => ?_)⟩
    obtain ⟨e4, hy⟩ := h4
    subst e4
    rw [Z3.1.2.2.2.1, Z3.1.2.2.2.2.1]
    refine ⟨⟨by split at hy <;> (try split at hy) <;> omega, by split at hy <;> (try split at hy) <;> omega⟩, m1, fun q => ⟨Z3.1.1, y3.1.1, ?_⟩, fun q => ⟨Z3.1.1, x3.1.1, ?_⟩⟩
    · have hlt : wv M4 (u + 11) < wv M4 (u + 13) := by
        split at hy
        · omega
        · split at hy <;> omega
      refine (s_MW_less m1 y3 x3 (by omega) (by omega)).mono (fun M5 h5 => ?_)
      obtain ⟨n1, n2, n3, n4⟩ := h5
      have Z5 := Z3.step (c := 13) (by decide) rfl n2 n3.1
      obtain ⟨x5, vx5⟩ := x3.out n2 (by omega) (by omega)
      obtain ⟨z5, vz5⟩ := m3.out n2 (by omega) (by omega)
      have sy5 : mI M5 (u + 13) 1 < 900 := by have := n3.le y3 (by have := x3.nonneg; omega); omega
      refine ⟨n1, Z5.1.1, ?_⟩
      rw [Z5.1.2.2.2.1, Z5.1.2.2.2.2.1]
      refine ⟨x5.1.1, (s_MW_copy n1 x5.1 n3 (by omega) (by omega)).mono (fun M6 h6 => ?_)⟩
      obtain ⟨o1, o2, o3, o4⟩ := h6
      have Z6 := Z5.step (c := 11) (by decide) rfl o2 o3.1
      obtain ⟨z6, vz6⟩ := z5.out o2 (by omega) (by omega)
      have sx6 : mI M6 (u + 11) 1 < 900 := by have := o3.le n3 (by omega); omega
      have sz6 : mI M6 (u + 15) 1 < 900 := by have := z6.le m3 (by omega); omega
      refine ⟨o1, Z6.1.1, by rw [Z6.1.2.1]; exact Z6.2.1.1, ?_⟩
      refine sums_sign o1 Z6 o3 z6 sx6 sz6 (by omega) hw01 (fun M' h' => ?_)
      obtain ⟨q1, q2, q3, q4, q5, q6⟩ := h'
      refine ⟨q1, (((F3.mono (fun x q => by omega)).trans (n2.mono (fun x q => by omega))).trans (o2.mono (fun x q => by omega))).trans q2, q3, q4, q5, ?_⟩
      rw [hval, ← ez, ← vz5, ← vz6, q6, o4, n4]
      congr 1
      rcases ha with p | p <;> rcases hw01 with t | t <;> simp [p, t] at c ⊢ <;> omega
    · have hge : wv M4 (u + 13) ≤ wv M4 (u + 11) := by
        split at hy
        · omega
        · split at hy <;> omega
      refine (s_MW_less m1 x3 y3 (by omega) (by omega)).mono (fun M5 h5 => ?_)
      obtain ⟨n1, n2, n3, n4⟩ := h5
      have Z5 := Z3.step (c := 11) (by decide) rfl n2 n3.1
      have A5 := A3.1.out n2 (fun x q => by omega)
      obtain ⟨z5, vz5⟩ := m3.out n2 (by omega) (by omega)
      have sx5 : mI M5 (u + 11) 1 < 900 := by have := n3.le x3 (by have := y3.nonneg; omega); omega
      have sz5 : mI M5 (u + 15) 1 < 900 := by have := z5.le m3 (by omega); omega
      rw [A5.2.2.2.2.2, ea, Z5.1.2.1]
      refine ⟨n1, Z5.1.1, A5.1.1.1, Z5.2.1.1, ha, ?_⟩
      have hs := sums_sign (G := G) (d := d) (Q := suQ M u (sn M a * sd M b + (if m = 1 then - (sn M b * sd M a) else sn M b * sd M a)) (sd M a * sd M b)) n1 Z5 n3 z5 sx5 sz5 (by omega) ha (fun M' h' => ?_)
      · rw [Z5.1.2.1] at hs
        exact hs
      · obtain ⟨q1, q2, q3, q4, q5, q6⟩ := h'
        refine ⟨q1, ((F3.mono (fun x q => by omega)).trans (n2.mono (fun x q => by omega))).trans q2, q3, q4, q5, ?_⟩
        rw [hval, ← ez, ← vz5, q6, n4]
        congr 1
        rcases ha with p | p <;> rcases hw01 with t | t <;> simp [p, t] at c ⊢ <;> omega
end
end
