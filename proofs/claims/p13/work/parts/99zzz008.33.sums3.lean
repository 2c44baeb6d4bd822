/-! The reference's sums: products, quotients, order. -/
theorem sn_mul {M : mM} {f : Nat} {c : Int} : sn M f * c = if mI M f 2 = 1 then - (wv M (f + 1) * c) else wv M (f + 1) * c := by
  unfold sn
  split
  · rw [Int.neg_mul]
  · rfl
theorem mul_lt_B {x y A B : Int} (hx : x < A) (hy : y < B) (h0 : 0 ≤ x) (h1 : 0 ≤ y) : x * y < A * B :=
  Int.lt_of_le_of_lt (Int.mul_le_mul_of_nonneg_left (Int.le_of_lt hy) h0) (Int.mul_lt_mul_of_pos_right hx (Int.lt_of_le_of_lt h1 hy))
abbrev suO (u a : Nat) : Prop := a + 4 < u + 11 ∨ u + 20 < a
abbrev suQ (M : mM) (u : Nat) (N D : Int) : mM → Prop := fun M' => mOk M' ∧ FI (sS u) M M' ∧ Sz M' u ∧ Fq M' (u + 1) 900 ∧ Fc M' (u + 1) ∧ sn M' (u + 1) * D = N * sd M' (u + 1)
section SU
variable {G : mG} {d u a b ra rb : Nat} {M : mM}
theorem sums_tail {Q : mM → Prop} (hO : mOk M) (hZ : Sz M u) (hx : W3 M (u + 11) 900) (hy : W3 M (u + 13) 900) (sx : mI M (u + 11) 1 < 900) (sy : mI M (u + 13) 1 < 900) (hy0 : 0 < wv M (u + 13)) (hf : mI M (u + 1) 2 = 0 ∨ mI M (u + 1) 2 = 1)
    (hQ : ∀ M', suQ M u (if mI M (u + 1) 2 = 1 then - wv M (u + 11) else wv M (u + 11)) (wv M (u + 13)) M' → Q M') :
    mK M (mR M u 0) = 19 ∧ mK M (mR M (mR M u 0) 0) = 20 ∧ Cv G y_MW_copy (d + 3) [vr (mR M (mR M u 0) 0), vr (mR M u 2)] M (fun M29 => mOk M29 ∧ (mK M29 u = 18 ∧ mK M29 (mR M29 u 0) = 19 ∧ mK M29 (mR M29 (mR M29 u 0) 1) = 20 ∧ Cv G y_MW_copy (d + 3) [vr (mR M29 (mR M29 u 0) 1), vr (mR M29 u 3)] M29 (fun M35 => mOk M35 ∧ (mK M35 u = 18 ∧ Cv G y_MU_settle (d + 3) [vr u] M35 (fun M39 => mOk M39 ∧ (Q M39)))))) := by
  rw [hZ.1.2.1, hZ.tp, hZ.1.2.2.2.1]
  refine ⟨hZ.2.1.1, (hZ.wh 2 (by decide)).1, (s_MW_copy hO (hZ.wh 2 (by decide)) hx (by omega) hx.1.2.2.2.2.2.2).mono (fun M1 h1 => ?_)⟩
  obtain ⟨g1, g2, g3, g4⟩ := h1
  have Z1 := hZ.step (c := 2) (by decide) rfl g2 g3.1
  obtain ⟨y1, vy1⟩ := hy.out g2 (by omega) (by omega)
  refine ⟨g1, Z1.1.1, ?_⟩
  rw [Z1.1.2.1, Z1.bt, Z1.1.2.2.2.2.1]
  refine ⟨Z1.2.1.1, (Z1.wh 4 (by decide)).1, (s_MW_copy g1 (Z1.wh 4 (by decide)) y1 (by omega) y1.1.2.2.2.2.2.2).mono (fun M2 h2 => ?_)⟩
  obtain ⟨k1, k2, k3, k4⟩ := h2
  have Z2 := Z1.step (c := 4) (by decide) rfl k2 k3.1
  obtain ⟨t2, vt2⟩ := g3.out k2 (by omega) (by omega)
  have e2 : mI M2 (u + 1) = mI M (u + 1) := (k2.2.2.2.2.2.2 (u + 1) (by omega)).trans (g2.2.2.2.2.2.2 (u + 1) (by omega))
  have z1 : mI M2 (u + 2) 1 < 900 := by have := t2.le hx (by omega); omega
  have z2 : mI M2 (u + 4) 1 < 900 := by have := k3.le hy (by omega); omega
  have F2 : Fq M2 (u + 1) 900 := ⟨Z2.2.1, t2, k3, by rw [e2]; exact hf, by show 0 < wv M2 (u + 4); omega⟩
  refine ⟨k1, Z2.1.1, (s_MU_settle k1 Z2 F2 z1 z2).mono (fun M3 h3 => ?_)⟩
  obtain ⟨m1, m2, m3, m4, m5, m6⟩ := h3
  refine ⟨m1, hQ M3 ⟨m1, ((g2.mono (fun x q => by omega)).trans (k2.mono (fun x q => by omega))).trans m2, m3, m4, m5, ?_⟩⟩
  unfold sn sd at m6
  rw [e2, show wv M2 (u + 1 + 1) = wv M (u + 11) from vt2.trans g4, show wv M2 (u + 1 + 3) = wv M (u + 13) from k4.trans vy1] at m6
  exact m6
theorem s_MU_multiply (hO : mOk M) (hZ : Sz M u) (hA : Fq M a ra) (hB : Fq M b rb) (oa : suO u a) (ob : suO u b)
    (z1 : mI M (a + 1) 1 + mI M (b + 1) 1 < 900) (z2 : mI M (a + 3) 1 + mI M (b + 3) 1 < 900) :
    Cv G y_MU_multiply (d + 4) [vr u, vr a, vr b] M (suQ M u (sn M a * sn M b) (sd M a * sd M b)) := by
  refine k_MU_multiply hO ?_
  rw [hZ.1.2.2.2.1, hA.1.2.1, hB.1.2.1]
  refine ⟨hZ.1.1, hA.1.1, hB.1.1, (hZ.wh 11 (by decide)).1, (s_MW_product hO (hZ.wh 11 (by decide)) hA.2.1 hB.2.1 (by omega) (by omega) (by omega)).mono (fun M1 h1 => ?_)⟩
  obtain ⟨g1, g2, g3, g4⟩ := h1
  have Z1 := hZ.step (c := 11) (by decide) rfl g2 g3.1
  have A1 := hA.out g2 (fun x q => by omega)
  have B1 := hB.out g2 (fun x q => by omega)
  have za : mI M1 (a + 3) 1 = mI M (a + 3) 1 := by rw [g2.2.2.2.2.2.2 (a + 3) (by omega)]
  have zb : mI M1 (b + 3) 1 = mI M (b + 3) 1 := by rw [g2.2.2.2.2.2.2 (b + 3) (by omega)]
  refine ⟨g1, Z1.1.1, A1.1.1.1, B1.1.1.1, ?_⟩
  rw [Z1.1.2.2.2.2.1, A1.1.1.2.2, B1.1.1.2.2]
  refine ⟨(Z1.wh 13 (by decide)).1, (s_MW_product g1 (Z1.wh 13 (by decide)) A1.1.2.2.1 B1.1.2.2.1 (by omega) (by omega) (by omega)).mono (fun M2 h2 => ?_)⟩
  obtain ⟨k1, k2, k3, k4⟩ := h2
  have Z2 := Z1.step (c := 13) (by decide) rfl k2 k3.1
  have A2 := A1.1.out k2 (fun x q => by omega)
  have B2 := B1.1.out k2 (fun x q => by omega)
  obtain ⟨x2, vx2⟩ := g3.out k2 (by omega) (by omega)
  have sx : mI M2 (u + 11) 1 < 900 := by
    have h1 : wv M2 (u + 11) < 16777216 ^ ((mI M (a + 1) 1).toNat + (mI M (b + 1) 1).toNat) := by
      rw [vx2, g4, Int.pow_add]
      exact mul_lt_B hA.2.1.lt hB.2.1.lt hA.2.1.nonneg hB.2.1.nonneg
    have h2 := x2.size h1
    have h3 := hA.2.1.1.2.2.2.2.2.1
    have h4 := hB.2.1.1.2.2.2.2.2.1
    omega
  have sy : mI M2 (u + 13) 1 < 900 := by
    have h1 : wv M2 (u + 13) < 16777216 ^ ((mI M1 (a + 3) 1).toNat + (mI M1 (b + 3) 1).toNat) := by
      rw [k4, Int.pow_add]
      exact mul_lt_B A1.1.2.2.1.lt B1.1.2.2.1.lt A1.1.2.2.1.nonneg B1.1.2.2.1.nonneg
    have h2 := k3.size h1
    have h3 := A1.1.2.2.1.1.2.2.2.2.2.1
    have h4 := B1.1.2.2.1.1.2.2.2.2.2.1
    omega
  refine ⟨k1, Z2.1.1, A2.1.1.1, B2.1.1.1, fun v hv => ⟨by rw [Z2.1.2.1]; exact Z2.2.1.1, fun M3 e3 => ?_⟩⟩
  rw [Z2.1.2.1] at e3
  have hv01 : v = 0 ∨ v = 1 := by split at hv <;> omega
  have Z3 : Sz M3 u := by rw [e3]; exact Z2.flag
  have f3 : FI (fun x => x = u + 1) M2 M3 := by rw [e3]; exact FI.ui rfl
  have o3 : mOk M3 := by rw [e3]; exact mOk_UI k1 ⟨by omega, by omega⟩
  have v3 : mI M3 (u + 1) 2 = v := by rw [e3, mI_UI, if_pos ⟨rfl, rfl⟩]
  obtain ⟨x3, vx3⟩ := x2.out f3 (by omega) (by omega)
  obtain ⟨y3, vy3⟩ := k3.out f3 (by omega) (by omega)
  have zx3 : mI M3 (u + 11) 1 < 900 := by have := x3.le x2 (by omega); omega
  have zy3 : mI M3 (u + 13) 1 < 900 := by have := y3.le k3 (by omega); omega
  have hd1 : wv M3 (u + 13) = sd M a * sd M b := by
    rw [vy3, k4]
    show sd M1 a * sd M1 b = _
    rw [A1.2.2.1, B1.2.2.1]
  refine sums_tail o3 Z3 x3 y3 zx3 zy3 (by rw [hd1]; exact Int.mul_pos hA.2.2.2.2 hB.2.2.2.2) (by omega) (fun M' h' => ?_)
  obtain ⟨n1, n2, n3, n4, n5, n6⟩ := h'
  refine ⟨n1, (((g2.mono (fun x q => by omega)).trans (k2.mono (fun x q => by omega))).trans (f3.mono (fun x q => by omega))).trans n2, n3, n4, n5, ?_⟩
  rw [hd1] at n6
  rw [n6]
  congr 1
  rw [v3, vx3, vx2, g4, sn_mul]
  rw [A2.2.2.2.2.2, B2.2.2.2.2.2, A1.2.2.2.2.2, B1.2.2.2.2.2] at hv
  have ha := hA.2.2.2.1
  have hb := hB.2.2.2.1
  unfold sn
  rcases ha with p | p <;> rcases hb with q | q <;> simp [p, q] at hv ⊢ <;> simp [hv, Int.mul_neg, Int.neg_mul]
theorem s_MU_divide1 (hO : mOk M) (hZ : Sz M u) (hA : Fq M a ra) (hB : Fq M b rb) (oa : suO u a) (ob : suO u b) (hb0 : sn M b ≠ 0)
    (z1 : mI M (a + 1) 1 + mI M (b + 3) 1 < 900) (z2 : mI M (a + 3) 1 + mI M (b + 1) 1 < 900) :
    Cv G y_MU_divide1 (d + 4) [vr u, vr a, vr b] M (suQ M u (sn M a * sd M b) (sd M a * sn M b)) := by
  have hbt : 0 < wv M (b + 1) := by
    have h1 := hB.2.1.nonneg
    have h2 : wv M (b + 1) ≠ 0 := fun q => hb0 (by unfold sn; rw [q]; simp)
    omega
  refine k_MU_divide1 hO ?_
  rw [hZ.1.2.2.2.1, hA.1.2.1, hB.1.2.2]
  refine ⟨hZ.1.1, hA.1.1, hB.1.1, (hZ.wh 11 (by decide)).1, (s_MW_product hO (hZ.wh 11 (by decide)) hA.2.1 hB.2.2.1 (by omega) (by omega) (by omega)).mono (fun M1 h1 => ?_)⟩
  obtain ⟨g1, g2, g3, g4⟩ := h1
  have Z1 := hZ.step (c := 11) (by decide) rfl g2 g3.1
  have A1 := hA.out g2 (fun x q => by omega)
  have B1 := hB.out g2 (fun x q => by omega)
  have za : mI M1 (a + 3) 1 = mI M (a + 3) 1 := by rw [g2.2.2.2.2.2.2 (a + 3) (by omega)]
  have zb : mI M1 (b + 1) 1 = mI M (b + 1) 1 := by rw [g2.2.2.2.2.2.2 (b + 1) (by omega)]
  refine ⟨g1, Z1.1.1, A1.1.1.1, B1.1.1.1, ?_⟩
  rw [Z1.1.2.2.2.2.1, A1.1.1.2.2, B1.1.1.2.1]
  refine ⟨(Z1.wh 13 (by decide)).1, (s_MW_product g1 (Z1.wh 13 (by decide)) A1.1.2.2.1 B1.1.2.1 (by omega) (by omega) (by omega)).mono (fun M2 h2 => ?_)⟩
  obtain ⟨k1, k2, k3, k4⟩ := h2
  have Z2 := Z1.step (c := 13) (by decide) rfl k2 k3.1
  have A2 := A1.1.out k2 (fun x q => by omega)
  have B2 := B1.1.out k2 (fun x q => by omega)
  obtain ⟨x2, vx2⟩ := g3.out k2 (by omega) (by omega)
  have sx : mI M2 (u + 11) 1 < 900 := by
    have h1 : wv M2 (u + 11) < 16777216 ^ ((mI M (a + 1) 1).toNat + (mI M (b + 3) 1).toNat) := by
      rw [vx2, g4, Int.pow_add]
      exact mul_lt_B hA.2.1.lt hB.2.2.1.lt hA.2.1.nonneg hB.2.2.1.nonneg
    have h2 := x2.size h1
    have h3 := hA.2.1.1.2.2.2.2.2.1
    have h4 := hB.2.2.1.1.2.2.2.2.2.1
    omega
  have sy : mI M2 (u + 13) 1 < 900 := by
    have h1 : wv M2 (u + 13) < 16777216 ^ ((mI M1 (a + 3) 1).toNat + (mI M1 (b + 1) 1).toNat) := by
      rw [k4, Int.pow_add]
      exact mul_lt_B A1.1.2.2.1.lt B1.1.2.1.lt A1.1.2.2.1.nonneg B1.1.2.1.nonneg
    have h2 := k3.size h1
    have h3 := A1.1.2.2.1.1.2.2.2.2.2.1
    have h4 := B1.1.2.1.1.2.2.2.2.2.1
    omega
  refine ⟨k1, Z2.1.1, A2.1.1.1, B2.1.1.1, fun v hv => ⟨by rw [Z2.1.2.1]; exact Z2.2.1.1, fun M3 e3 => ?_⟩⟩
  rw [Z2.1.2.1] at e3
  have hv01 : v = 0 ∨ v = 1 := by split at hv <;> omega
  have Z3 : Sz M3 u := by rw [e3]; exact Z2.flag
  have f3 : FI (fun x => x = u + 1) M2 M3 := by rw [e3]; exact FI.ui rfl
  have o3 : mOk M3 := by rw [e3]; exact mOk_UI k1 ⟨by omega, by omega⟩
  have v3 : mI M3 (u + 1) 2 = v := by rw [e3, mI_UI, if_pos ⟨rfl, rfl⟩]
  obtain ⟨x3, vx3⟩ := x2.out f3 (by omega) (by omega)
  obtain ⟨y3, vy3⟩ := k3.out f3 (by omega) (by omega)
  have zx3 : mI M3 (u + 11) 1 < 900 := by have := x3.le x2 (by omega); omega
  have zy3 : mI M3 (u + 13) 1 < 900 := by have := y3.le k3 (by omega); omega
  have hd1 : wv M3 (u + 13) = wv M (a + 3) * wv M (b + 1) := by
    rw [vy3, k4, A1.2.2.2.2.1, B1.2.2.2.1]
  refine sums_tail o3 Z3 x3 y3 zx3 zy3 (by rw [hd1]; exact Int.mul_pos hA.2.2.2.2 hbt) (by omega) (fun M' h' => ?_)
  obtain ⟨n1, n2, n3, n4, n5, n6⟩ := h'
  refine ⟨n1, (((g2.mono (fun x q => by omega)).trans (k2.mono (fun x q => by omega))).trans (f3.mono (fun x q => by omega))).trans n2, n3, n4, n5, ?_⟩
  rw [hd1, v3, vx3, vx2, g4] at n6
  rw [A2.2.2.2.2.2, B2.2.2.2.2.2, A1.2.2.2.2.2, B1.2.2.2.2.2] at hv
  have ha := hA.2.2.2.1
  have hb := hB.2.2.2.1
  unfold sd at n6 ⊢
  rw [sn_mul (f := a)]
  have e6 : wv M (a + 3) * sn M b = if mI M b 2 = 1 then - (wv M (a + 3) * wv M (b + 1)) else wv M (a + 3) * wv M (b + 1) := by
    unfold sn
    split
    · rw [Int.mul_neg]
    · rfl
  rw [e6]
  rcases ha with p | p <;> rcases hb with q | q <;> simp [p, q] at hv ⊢ <;> simp [hv] at n6
  all_goals (try simp only [Int.mul_neg, Int.neg_mul] at n6 ⊢)
  all_goals omega
theorem s_MU_compare (hO : mOk M) (hZ : Sz M u) (hA : Fq M a ra) (hB : Fq M b rb) (oa : suO u a) (ob : suO u b)
    (z1 : mI M (a + 1) 1 + mI M (b + 3) 1 ≤ 900) (z2 : mI M (b + 1) 1 + mI M (a + 3) 1 ≤ 900) :
    Ci G y_MU_compare (d + 2) [vr u, vr a, vr b] M (fun x M' => mOk M' ∧ FI (fun x => u + 11 ≤ x ∧ x ≤ u + 14) M M' ∧ Sz M' u ∧ x = if wv M (a + 1) * wv M (b + 3) < wv M (b + 1) * wv M (a + 3) then -1 else if wv M (a + 1) * wv M (b + 3) = wv M (b + 1) * wv M (a + 3) then 0 else 1) := by
  refine k_MU_compare hO ?_
  rw [hZ.1.2.2.2.1, hA.1.2.1, hB.1.2.2]
  refine ⟨hZ.1.1, hA.1.1, hB.1.1, (hZ.wh 11 (by decide)).1, (s_MW_product hO (hZ.wh 11 (by decide)) hA.2.1 hB.2.2.1 (by omega) (by omega) (by omega)).mono (fun M1 h1 => ?_)⟩
  obtain ⟨g1, g2, g3, g4⟩ := h1
  have Z1 := hZ.step (c := 11) (by decide) rfl g2 g3.1
  have A1 := hA.out g2 (fun x q => by omega)
  have B1 := hB.out g2 (fun x q => by omega)
  have za : mI M1 (a + 3) 1 = mI M (a + 3) 1 := by rw [g2.2.2.2.2.2.2 (a + 3) (by omega)]
  have zb : mI M1 (b + 1) 1 = mI M (b + 1) 1 := by rw [g2.2.2.2.2.2.2 (b + 1) (by omega)]
  refine ⟨g1, Z1.1.1, B1.1.1.1, A1.1.1.1, ?_⟩
  rw [Z1.1.2.2.2.2.1, A1.1.1.2.2, B1.1.1.2.1]
  refine ⟨(Z1.wh 13 (by decide)).1, (s_MW_product g1 (Z1.wh 13 (by decide)) B1.1.2.1 A1.1.2.2.1 (by omega) (by omega) (by omega)).mono (fun M2 h2 => ?_)⟩
  obtain ⟨k1, k2, k3, k4⟩ := h2
  have Z2 := Z1.step (c := 13) (by decide) rfl k2 k3.1
  obtain ⟨x2, vx2⟩ := g3.out k2 (by omega) (by omega)
  refine ⟨k1, Z2.1.1, ?_⟩
  rw [Z2.1.2.2.2.1, Z2.1.2.2.2.2.1]
  refine ⟨x2.1.1, (s_MW_compare k1 x2 k3).mono (fun x M3 h3 => ?_)⟩
  obtain ⟨e3, hx⟩ := h3
  subst e3
  rw [vx2, g4, k4, B1.2.2.2.1, A1.2.2.2.2.1] at hx
  refine ⟨⟨by split at hx <;> (try split at hx) <;> omega, by split at hx <;> (try split at hx) <;> omega⟩, k1, k1, (g2.mono (fun x q => by omega)).trans (k2.mono (fun x q => by omega)), Z2, hx⟩
end SU
