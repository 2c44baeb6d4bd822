/-! The class's natural numbers: division by a limb, bits. -/
section NAG
variable {G : mG} {d a b c Y Cy s n m X Cx w : Nat} {M M' M1 M2 M3 : mM} {v : Int}
theorem dv_bd {r l dv : Int} (hd : 0 < dv ∧ dv < 1073741824) (hr : 0 ≤ r ∧ r < dv) (hl : 0 ≤ l ∧ l < 1073741824) : (0 ≤ r * 1073741824 + l ∧ r * 1073741824 + l < 1152921504606846976) ∧ (0 ≤ (r * 1073741824 + l) / dv ∧ (r * 1073741824 + l) / dv < 1073741824) ∧ (0 ≤ (r * 1073741824 + l) % dv ∧ (r * 1073741824 + l) % dv < dv) := by
  refine ⟨⟨by omega, by omega⟩, ⟨Int.ediv_nonneg (by omega) (by omega), Int.ediv_lt_of_lt_mul hd.1 (by omega)⟩, Int.emod_nonneg _ (by omega), Int.emod_lt_of_pos _ hd.1⟩
theorem s_ds56 {r : Int} {Q : Int → mM → Prop} (h : Nl M a Y Cy) (hr : 0 ≤ r ∧ r < 1073741824) (hQ : ∀ M' t, mOk M' → FI (fun x => x = a) M M' → Nt M' a Y Cy t → dn (mI M' Y) t = v → Q r M') : ∀ (t : Nat) (M1 : mM), t ≤ Cy → mOk M1 → FI (fun x => x = a) M M1 → mI M1 a 1 = ((t : Nat) : Int) → lim M Y t → dn (mI M Y) t = v → h_Na_divideSmall_56 G d a r M1 Q := by
  obtain ⟨k0, r0, kY, nY, ⟨c1, c2⟩, ne, z1, z2⟩ := id h
  intro t
  induction t with
  | zero =>
    intro M1 ht o f h1 hl hd
    have nb := f.2.2.2.2.2.2 Y (fun u => ne u.symm)
    refine k_Na_divideSmall_56 o (c30 hr) ⟨by rw [f.1]; exact k0, fun y => absurd y (by omega), fun _ => hQ M1 0 o f ⟨h.fi f, h1, by omega, fun j hj => absurd hj (by omega), fun u => absurd u (by omega)⟩ (by rw [nb]; exact hd), fun y => absurd (Or.inl (by omega)) y⟩
  | succ t ih =>
    intro M1 ht o f h1 hl hd
    have nb := f.2.2.2.2.2.2 Y (fun u => ne u.symm)
    refine k_Na_divideSmall_56 o (c30 hr) ?_
    rw [f.1, f.2.1, f.2.2.1, r0, nY, h1, show Int.toNat (((t + 1 : Nat) : Int) - 1) = t by omega, nb]
    refine ⟨k0, fun _ => ⟨kY, by omega⟩, fun y => hQ M1 (t + 1) o f ⟨h.fi f, h1, ht, fun j hj => by rw [nb]; exact hl j hj, fun _ => ?_⟩ (by rw [nb]; exact hd), fun y => ⟨⟨by omega, by omega⟩, fun M14 e14 => ?_⟩⟩
    · rw [nb, show t + 1 - 1 = t by omega]
      rcases y with y | y
      · omega
      · exact y
    · have y0 : mI M Y t = 0 := Classical.byContradiction (fun u => y (Or.inr u))
      refine ih M14 (by omega) (by rw [e14]; exact mOk_UI o ⟨by omega, by omega⟩) (f.trans (by rw [e14]; exact FI.ui rfl)) (by rw [mI_ui a 1 e14, if_pos ⟨rfl, rfl⟩]; omega) (fun j hj => hl j (by omega)) ?_
      rw [← hd, dn_s, y0, Int.zero_mul, Int.add_zero]
/-- the quotient by a small number; the rest is answered -/
theorem s_Na_divideSmall {dv : Int} (hd : 0 < dv ∧ dv < 1073741824) (hO : mOk M) (h : Nt M a Y Cy s) : Ci G y_Na_divideSmall d [vr a, vi dv] M (fun x M' => (0 ≤ x ∧ x < dv) ∧ mOk M' ∧ FI (fun y => y = a ∨ y = Y) M M' ∧ ∃ t, Nt M' a Y Cy t ∧ dn (mI M Y) s = dv * dn (mI M' Y) t + x) := by
  obtain ⟨hl, h1, h2, h3, h4⟩ := id h
  obtain ⟨k0, r0, kY, nY, ⟨c1, c2⟩, ne, z1, z2⟩ := id hl
  refine k_Na_divideSmall hO (l30i ⟨by omega, hd.2⟩) ⟨k0, ?_⟩
  rw [h1]
  suffices HH : ∀ (i : Nat) (r : Int) (M1 : mM), i ≤ s → (0 ≤ r ∧ r < dv) → mOk M1 → FI (fun x => x = Y) M M1 → lim M1 Y s → (∀ j, j < i → mI M1 Y j = mI M Y j) → dn (mI M Y) s = dv * (dn (mI M1 Y) s - dn (mI M Y) i) + r * 2 ^ (30 * i) + dn (mI M Y) i → h_Na_divideSmall_10 G d a dv r ((i : Int) - 1) M1 (fun x M' => (0 ≤ x ∧ x < dv) ∧ mOk M' ∧ FI (fun y => y = a ∨ y = Y) M M' ∧ ∃ t, Nt M' a Y Cy t ∧ dn (mI M Y) s = dv * dn (mI M' Y) t + x) from
    HH s 0 M (Nat.le_refl _) ⟨by omega, by omega⟩ hO FI.refl h3 (fun _ _ => rfl) (by rw [Int.sub_self, Int.mul_zero, Int.zero_mul]; omega)
  intro i
  induction i with
  | zero =>
    intro r M1 hi hr o F L E V
    refine k_Na_divideSmall_10 o (l30i ⟨by omega, hd.2⟩) (c30 ⟨hr.1, by omega⟩) ⟨by omega, by omega⟩ ⟨fun _ => ?_, fun y => absurd (Or.inl (by omega)) y⟩
    refine s_ds56 (M := M1) (v := dn (mI M1 Y) s) (hl.fi F) ⟨hr.1, by omega⟩ (fun M' t o' F' T' V' => ⟨hr, o', (F.mono (fun _ u => Or.inr u)).trans (F'.mono (fun _ u => Or.inl u)), t, T', ?_⟩) s M1 h2 o FI.refl (by rw [F.2.2.2.2.2.2 a ne]; exact h1) L rfl
    · rw [V']
      have e0 : (2 : Int) ^ (30 * 0) = 1 := by decide
      have e1 : dn (mI M Y) 0 = 0 := rfl
      rw [e0, e1, Int.sub_zero, Int.mul_one, Int.add_zero] at V
      exact V
  | succ i ih =>
    intro r M1 hi hr o F L E V
    obtain ⟨b1, b2, b3⟩ := dv_bd hd hr (L i (by omega))
    refine k_Na_divideSmall_10 o (l30i ⟨by omega, hd.2⟩) (c30 ⟨hr.1, by omega⟩) ⟨by omega, by omega⟩ ⟨fun y => absurd y (by omega), fun y => ?_⟩
    rw [F.1, F.2.1, F.2.2.1, r0, nY, show Int.toNat (((i + 1 : Nat) : Int) - 1) = i by omega, j_shl ⟨by omega, by omega⟩, Int.tdiv_eq_ediv_of_nonneg b1.1, Int.tmod_eq_emod_of_nonneg b1.1]
    refine ⟨k0, kY, by omega, ⟨by omega, by omega⟩, by omega, by omega, l30i b2, fun M22 e22 => ⟨by omega, ?_⟩⟩
    rw [show ((i + 1 : Nat) : Int) - 1 + (-1) = ((i : Nat) : Int) - 1 by omega]
    refine ih _ M22 (by omega) b3 (by rw [e22]; exact mOk_UI o (l30i b2)) (F.trans (by rw [e22]; exact FI.ui rfl)) (lim_ui L b2 e22) (fun j hj => by rw [mI_ui Y j e22, if_neg (fun q => by omega)]; exact E j (by omega)) ?_
    rw [dn_ui (M' := M22) (n := s) (by omega) e22, Int.emod_def, E i (by omega)]
    rw [dn_s, p30] at V
    exact al_div V
theorem s_Na_modulo {dv : Int} (hd : 0 < dv ∧ dv < 1073741824) (hO : mOk M) (h : Nt M a Y Cy s) : Ci G y_Na_modulo d [vr a, vi dv] M (fun x M' => M' = M ∧ 0 ≤ x ∧ x < dv) := by
  obtain ⟨hl, h1, h2, h3, h4⟩ := id h
  obtain ⟨k0, r0, kY, nY, ⟨c1, c2⟩, ne, z1, z2⟩ := id hl
  refine k_Na_modulo hO (l30i ⟨by omega, hd.2⟩) ⟨k0, ?_⟩
  rw [h1]
  suffices HH : ∀ (i : Nat) (r : Int), i ≤ s → (0 ≤ r ∧ r < dv) → h_Na_modulo_10 G d a dv r ((i : Int) - 1) M (fun x M' => M' = M ∧ 0 ≤ x ∧ x < dv) from
    HH s 0 (Nat.le_refl _) ⟨by omega, by omega⟩
  intro i
  induction i with
  | zero =>
    intro r hi hr
    exact k_Na_modulo_10 hO (l30i ⟨by omega, hd.2⟩) (c30 ⟨hr.1, by omega⟩) ⟨by omega, by omega⟩ ⟨fun _ => ⟨rfl, hr⟩, fun y => absurd (Or.inl (by omega)) y⟩
  | succ i ih =>
    intro r hi hr
    obtain ⟨b1, b2, b3⟩ := dv_bd hd hr (h3 i (by omega))
    refine k_Na_modulo_10 hO (l30i ⟨by omega, hd.2⟩) (c30 ⟨hr.1, by omega⟩) ⟨by omega, by omega⟩ ⟨fun y => absurd y (by omega), fun y => ?_⟩
    rw [r0, nY, show Int.toNat (((i + 1 : Nat) : Int) - 1) = i by omega, j_shl ⟨by omega, by omega⟩, Int.tmod_eq_emod_of_nonneg b1.1]
    refine ⟨k0, kY, by omega, ⟨by omega, by omega⟩, by omega, ?_⟩
    rw [show ((i + 1 : Nat) : Int) - 1 + (-1) = ((i : Nat) : Int) - 1 by omega]
    exact ih _ (by omega) b3
theorem p2m {m k : Nat} (h : m ≤ k) : (2 : Int) ^ m ≤ 2 ^ k := by
  obtain ⟨t, rfl⟩ := Nat.le.dest h
  rw [Int.pow_add]
  have h1 : (1 : Int) ≤ 2 ^ t := Int.pow_pos (by decide)
  have h2 := Int.mul_le_mul_of_nonneg_left h1 (Int.le_of_lt (show (0 : Int) < 2 ^ m from Int.pow_pos (by decide)))
  omega
theorem p2l {m k : Nat} (h : (2 : Int) ^ m < 2 ^ k) : m < k := Classical.byContradiction (fun u => by
  have := p2m (m := k) (k := m) (by omega)
  omega)
/-- how many bits a number has -/
theorem s_Na_bits (hO : mOk M) (h : Nt M a Y Cy s) : Ci G y_Na_bits (d + 1) [vr a] M (fun x M' => M' = M ∧ ∃ n : Nat, x = ((n : Nat) : Int) ∧ n ≤ 30 * s ∧ dn (mI M Y) s < 2 ^ n ∧ (0 < s → 30 * (s - 1) < n ∧ 2 ^ (n - 1) ≤ dn (mI M Y) s) ∧ (s = 0 → n = 0)) := by
  obtain ⟨hl, h1, h2, h3, h4⟩ := id h
  obtain ⟨k0, r0, kY, nY, ⟨c1, c2⟩, ne, z1, z2⟩ := id hl
  refine k_Na_bits hO ?_
  rw [h1, r0, nY]
  refine ⟨k0, fun y => ⟨rfl, 0, rfl, by omega, ?_, fun u => absurd u (by omega), fun _ => rfl⟩, fun y => ⟨kY, by omega, ?_⟩⟩
  · rw [show s = 0 by omega]
    exact (by decide : (0 : Int) < 2 ^ 0)
  · obtain ⟨t, rfl⟩ : ∃ t, s = t + 1 := ⟨s - 1, by omega⟩
    rw [show Int.toNat (((t + 1 : Nat) : Int) - 1) = t by omega]
    have ht := h3 t (by omega)
    have h0 : mI M Y t ≠ 0 := h4 (by omega)
    have hnn := dn_nn (n := t) (fun j hj => h3 j (by omega))
    have hlt := dn_lt (n := t) (fun j hj => h3 j (by omega))
    have hp := p30p t
    refine (s_nlz (by omega) (l30i ht) hO).mono (fun x M' q => ?_)
    obtain ⟨e, k, ek, k31, q1, q2⟩ := q
    rw [e]
    have kk : 31 - k < 30 := p2l (by rw [show (2 : Int) ^ 30 = 1073741824 by decide]; exact Int.lt_of_le_of_lt q1 ht.2)
    refine ⟨⟨by omega, by omega⟩, hO, rfl, 30 * (t + 1) + 2 - k, by omega, by omega, ?_, fun _ => ⟨by omega, ?_⟩, fun u => absurd u (by omega)⟩
    · rw [show 30 * (t + 1) + 2 - k = (32 - k) + 30 * t by omega, Int.pow_add, dn_s]
      have a1 := Int.mul_le_mul_of_nonneg_right (show mI M Y t + 1 ≤ 2 ^ (32 - k) by omega) (Int.le_of_lt hp)
      rw [Int.add_mul] at a1
      omega
    · rw [show 30 * (t + 1) + 2 - k - 1 = (31 - k) + 30 * t by omega, Int.pow_add, dn_s]
      have a1 := Int.mul_le_mul_of_nonneg_right q1 (Int.le_of_lt hp)
      omega
end NAG
