section
section
variable {G : mG} {d u a b c ra rb : Nat} {M : mM}
theorem s_MU_billionths (hO : mOk M) (hZ : Sz M u) (hA : Fq M a ra) (oa : suO u a) (z1 : mI M (a + 1) 1 < 890) (z2 : mI M (a + 3) 1 < 900) (hv : wv M (a + 1) * 1000000000 / wv M (a + 3) < 2147483648) :
    Ci G y_MU_billionths (d + 3) [vr u, vr a] M (fun x M' => mOk M' ∧ FI (sS u) M M' ∧ Sz M' u ∧ x = wv M (a + 1) * 1000000000 / wv M (a + 3)) := by
  refine k_MU_billionths hO ?_
  rw [hZ.1.2.2.2.2.1]
  refine ⟨hZ.1.1, (hZ.wh 13 (by decide)).1, (s_MW_set (by omega) (by omega) ⟨by omega, by omega⟩ hO (hZ.wh 13 (by decide)) (by omega)).mono (fun M1 h1 => ?_)⟩
  obtain ⟨g1, g2, g3, g4⟩ := h1
  have Z1 := hZ.step (c := 13) (by decide) rfl g2 g3.1
  have A1 := hA.out g2 (fun x q => by omega)
  have za : mI M1 (a + 1) 1 = mI M (a + 1) 1 := by rw [g2.2.2.2.2.2.2 (a + 1) (by omega)]
  have zy : mI M1 (u + 13) 1 ≤ 2 := g3.size (k := 2) (by rw [g4]; decide)
  refine ⟨g1, Z1.1.1, A1.1.1.1, ?_⟩
  rw [Z1.1.2.2.2.1, Z1.1.2.2.2.2.1, A1.1.1.2.1]
  refine ⟨(Z1.wh 11 (by decide)).1, (s_MW_product g1 (Z1.wh 11 (by decide)) A1.1.2.1 g3 (by omega) (by omega) (by omega)).mono (fun M2 h2 => ?_)⟩
  obtain ⟨k1, k2, k3, k4⟩ := h2
  have Z2 := Z1.step (c := 11) (by decide) rfl k2 k3.1
  have A2 := A1.1.out k2 (fun x q => by omega)
  have sx : mI M2 (u + 11) 1 < 900 := by
    have h1 : wv M2 (u + 11) < 16777216 ^ ((mI M1 (a + 1) 1).toNat + (mI M1 (u + 13) 1).toNat) := by
      rw [k4, Int.pow_add]
      exact mul_lt_B A1.1.2.1.lt g3.lt A1.1.2.1.nonneg g3.nonneg
    have h2 := k3.size h1
    have h3 := A1.1.2.1.1.2.2.2.2.2.1
    have h4 := g3.1.2.2.2.2.2.1
    omega
  have sb : mI M2 (a + 3) 1 < 900 := by have := A2.1.2.2.1.le hA.2.2.1 (by rw [A2.2.2.2.2.1, A1.2.2.2.2.1]; omega); omega
  refine ⟨k1, Z2.1.1, A2.1.1.1, ?_⟩
  rw [Z2.1.2.2.2.1, A2.1.1.2.2]
  refine (s_MU_divide0 k1 Z2.1 (Z2.wh 17 (by decide)) (Z2.wh 19 (by decide)) k3 A2.1.2.2.1 (by omega) (by omega) A2.1.2.2.2.2 sx sb).mono (fun M3 h3 => ?_)
  obtain ⟨o1, o2, o3, o4, o5, o6⟩ := h3
  have Z3 : Sz M3 u := ⟨Z2.1.fi o2, Z2.2.1.fi o2, Z2.2.2.1.fi o2, fun c hc => by
    by_cases q1 : c = 17
    · rw [q1]; exact o3.1
    · by_cases q2 : c = 19
      · rw [q2]; exact o4.1
      · refine (Z2.wh c hc).out o2 ?_
        have h1 : ∀ e ∈ szL, e = 17 ∨ e = 19 ∨ e < 17 := by decide
        have h2 := h1 c hc
        omega⟩
  have eq : wv M3 (u + 17) = wv M (a + 1) * 1000000000 / wv M (a + 3) := by
    rw [o5, k4, g4, A1.2.2.2.1, A2.2.2.2.2.1, A1.2.2.2.2.1]
  have F3 : FI (sS u) M M3 := ((g2.mono (fun x q => by omega)).trans (k2.mono (fun x q => by omega))).trans (o2.mono (fun x q => by omega))
  rw [← eq] at hv ⊢
  clear eq
  refine ⟨o1, Z3.1.1, ?_⟩
  rw [Z3.1.2.2.2.2.2.2.1]
  refine ⟨o3.1.1, (s_MW_places o1 o3).mono (fun x M4 h4 => ?_)⟩
  obtain ⟨e4, p1, p2, p3, p4⟩ := h4
  subst e4
  refine ⟨⟨by omega, by omega⟩, o1, ?_⟩
  suffices H : ∀ (k : Nat) (l j : Int), l + 1 = k → l < 30000 → j = wv M4 (u + 17) / 2 ^ k → h_MU_billionths_50 G (d + 2) u j l M4 (fun x M' => mOk M' ∧ FI (sS u) M M' ∧ Sz M' u ∧ x = wv M4 (u + 17)) from
    H x.toNat (x - 1) 0 (by omega) (by omega) (Int.ediv_eq_zero_of_lt o3.nonneg p3).symm
  have n0 := o3.nonneg
  intro k
  induction k with
  | zero =>
    intro l j hk hl hj
    have hj' : j = wv M4 (u + 17) := by rw [hj]; simp
    exact k_MU_billionths_50 o1 ⟨by omega, by omega⟩ ⟨by omega, by omega⟩ ⟨fun _ => ⟨o1, F3, Z3, hj'⟩, fun c => by omega⟩
  | succ k ih =>
    intro l j hk hl hj
    have h1 := half_pow (wv M4 (u + 17)) k
    have h2 : 0 ≤ wv M4 (u + 17) / 2 ^ k := Int.ediv_nonneg n0 (Int.le_of_lt (Int.pow_pos (by decide)))
    have h3 : wv M4 (u + 17) / 2 ^ k ≤ wv M4 (u + 17) := Int.ediv_le_self _ n0
    refine k_MU_billionths_50 o1 ⟨by omega, by omega⟩ ⟨by omega, by omega⟩ ⟨fun c => by omega, fun _ => ⟨Z3.1.1, ?_⟩⟩
    rw [Z3.1.2.2.2.2.2.2.1]
    refine ⟨o3.1.1, (s_MW_bit (by omega) ⟨by omega, by omega⟩ o1 o3).mono (fun y M5 h5 => ?_)⟩
    obtain ⟨e5, hy⟩ := h5
    subst e5
    rw [show l.toNat = k by omega] at hy
    refine ⟨⟨by split at hy <;> omega, by split at hy <;> omega⟩, o1, fun v hv => ih (l + (-1)) _ (by omega) (by omega) ?_⟩
    rw [h1] at hj
    split at hy <;> split at hv <;> omega
end
end
