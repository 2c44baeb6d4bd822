section
/-! The class's natural numbers: division by a limb, bits. -/
section NAG
variable {G : mG} {d a b c Y Cy s n m X Cx w : Nat} {M M' M1 M2 M3 : mM} {v : Int}
theorem dv_bd {r l dv : Int} (hd : 0 < dv ∧ dv < 1073741824) (hr : 0 ≤ r ∧ r < dv) (hl : 0 ≤ l ∧ l < 1073741824) : (0 ≤ r * 1073741824 + l ∧ r * 1073741824 + l < 1152921504606846976) ∧ (0 ≤ (r * 1073741824 + l) / dv ∧ (r * 1073741824 + l) / dv < 1073741824) ∧ (0 ≤ (r * 1073741824 + l) % dv ∧ (r * 1073741824 + l) % dv < dv) := by
  refine ⟨⟨by omega, by omega⟩, ⟨Int.ediv_nonneg (by omega) (by omega), Int.ediv_lt_of_lt_mul hd.1 (by omega)⟩, Int.emod_nonneg _ (by omega), Int.emod_lt_of_pos _ hd.1⟩
theorem s_ds56 {r : Int} {Q : Int → mM → Prop} (h : Nl M a Y Cy) (hr : 0 ≤ r ∧ r < 1073741824) (hQ : ∀ M' t, mOk M' → FI (fun x => x = a) M M' → Nt M' a Y Cy t → dn (mI M' Y) t = v → Q r M') : ∀ (t : Nat) (M1 : mM), t ≤ Cy → mOk M1 → FI (fun x => x = a) M M1 → mI M1 a 1 = ((t : Nat) : Int) → lim M Y t → dn (mI M Y) t = v → h_Na_divideSmall_56 G d a r M1 Q := by
  obtain ⟨k0, r0, kY, nY, ⟨c1, c2⟩, ne, z1, z2⟩ := id h
  intro t
  induction t with
  | zero =>
    intro M1 ht o f h1 hl hd
    have nb := f.2.2.2.2.2.2 Y (fun u => ne u.symm)
    refine k_Na_divideSmall_56 o (c30 hr) ⟨by rw [f.1]; exact k0, fun y => absurd y (by omega), fun _ => hQ M1 0 o f ⟨h.fi f, h1, by omega, fun j hj => absurd hj (by omega), fun u => absurd u (by omega)⟩ (by rw [nb]; exact hd), fun y => absurd (Or.inl (by omega)) y⟩
  | succ t ih =>
    intro M1 ht o f h1 hl hd
    have nb := f.2.2.2.2.2.2 Y (fun u => ne u.symm)
    refine k_Na_divideSmall_56 o (c30 hr) ?_
    rw [f.1, f.2.1, f.2.2.1, r0, nY, h1, show Int.toNat (((t + 1 : Nat) : Int) - 1) = t by omega, nb]
    refine ⟨k0, fun _ => ⟨kY, by omega⟩, fun y => hQ M1 (t + 1) o f ⟨h.fi f, h1, ht, fun j hj => by rw [nb]; exact hl j hj, fun _ => ?_⟩ (by rw [nb]; exact hd), fun y => ⟨⟨by omega, by omega⟩, fun M14 e14 => ?_⟩⟩
    · rw [nb, show t + 1 - 1 = t by omega]
      rcases y with y | y
      · omega
      · exact y
    · have y0 : mI M Y t = 0 := Classical.byContradiction (fun u => y (Or.inr u))
      refine ih M14 (by omega) (by rw [e14]; exact mOk_UI o ⟨by omega, by omega⟩) (f.trans (by rw [e14]; exact FI.ui rfl)) (by rw [mI_ui a 1 e14, if_pos ⟨rfl, rfl⟩]; omega) (fun j hj => hl j (by omega)) ?_
      rw [← hd, dn_s, y0, Int.zero_mul, Int.add_zero]
/-- the quotient by a small number; the rest is answered -/
theorem s_Na_divideSmall {dv : Int} (hd : 0 < dv ∧ dv < 1073741824) (hO : mOk M) (h : Nt M a Y Cy s) : Ci G y_Na_divideSmall d [vr a, vi dv] M (fun x M' => (0 ≤ x ∧ x < dv) ∧ mOk M' ∧ FI (fun y => y = a ∨ y = Y) M M' ∧ ∃ t, Nt M' a Y Cy t ∧ dn (mI M Y) s = dv * dn (mI M' Y) t + x) := by
  obtain ⟨hl, h1, h2, h3, h4⟩ := id h
  obtain ⟨k0, r0, kY, nY, ⟨c1, c2⟩, ne, z1, z2⟩ := id hl
  refine k_Na_divideSmall hO (l30i ⟨by omega, hd.2⟩) ⟨k0, ?_⟩
  rw [h1]
  suffices HH : ∀ (i : Nat) (r : Int) (M1 : mM), i ≤ s → (0 ≤ r ∧ r < dv) → mOk M1 → FI (fun x => x = Y) M M1 → lim M1 Y s → (∀ j, j < i → mI M1 Y j = mI M Y j) → dn (mI M Y) s = dv * (dn (mI M1 Y) s - dn (mI M Y) i) + r * 2 ^ (30 * i) + dn (mI M Y) i → h_Na_divideSmall_10 G d a dv r ((i : Int) - 1) M1 (fun x M' => (0 ≤ x ∧ x < dv) ∧ mOk M' ∧ FI (fun y => y = a ∨ y = Y) M M' ∧ ∃ t, Nt M' a Y Cy t ∧ dn (mI M Y) s = dv * dn (mI M' Y) t + x) from
    HH s 0 M (Nat.le_refl _) ⟨by omega, by omega⟩ hO FI.refl h3 (fun _ _ => rfl) (by rw [Int.sub_self, Int.mul_zero, Int.zero_mul]; omega)
  intro i
  induction i with
  | zero =>
    intro r M1 hi hr o F L E V
    refine k_Na_divideSmall_10 o (l30i ⟨by omega, hd.2⟩) (c30 ⟨hr.1, by omega⟩) ⟨by omega, by omega⟩ ⟨fun _ => ?_, fun y => absurd (Or.inl (by omega)) y⟩
    refine s_ds56 (M := M1) (v := dn (mI M1 Y) s) (hl.fi F) ⟨hr.1, by omega⟩ (fun M' t o' F' T' V' => ⟨hr, o', (F.mono (fun _ u => Or.inr u)).trans (F'.mono (fun _ u => Or.inl u)), t, T', ?_⟩) s M1 h2 o FI.refl (by rw [F.2.2.2.2.2.2 a ne]; exact h1) L rfl
    · rw [V']
      have e0 : (2 : Int) ^ (30 * 0) = 1 := by decide
      have e1 : dn (mI M Y) 0 = 0 := rfl
      rw [e0, e1, Int.sub_zero, Int.mul_one, Int.add_zero] at V
      exact V
  | succ i ih =>
    intro r M1 hi hr o F L E V
    obtain ⟨b1, b2, b3⟩ := dv_bd hd hr (L i (by omega))
    refine k_Na_divideSmall_10 o (l30i ⟨by omega, hd.2⟩) (c30 ⟨hr.1, by omega⟩) ⟨by omega, by omega⟩ ⟨fun y => absurd y (by omega), fun y => ?_⟩
    rw [F.1, F.2.1, F.2.2.1, r0, nY, show Int.toNat (((i + 1 : Nat) : Int) - 1) = i by omega, j_shl ⟨by omega, by omega⟩, Int.tdiv_eq_ediv_of_nonneg b1.1, Int.tmod_eq_emod_of_nonneg b1.1]
    refine ⟨k0, kY, by omega, ⟨by omega, by omega⟩, by omega, by omega, l30i b2, fun M22 e22 => ⟨by omega, ?_⟩⟩
    rw [show ((i + 1 : Nat) : Int) - 1 + (-1) = ((i : Nat) : Int) - 1 by omega]
    refine ih _ M22 (by omega) b3 (by rw [e22]; exact mOk_UI o (l30i b2)) (F.trans (by rw [e22]; exact FI.ui rfl)) (lim_ui L b2 e22) (fun j hj => by rw [mI_ui Y j e22, if_neg (fun q => by omega)]; exact E j (by omega)) ?_
    rw [dn_ui (M' := M22) (n := s) (by omega) e22, Int.emod_def, E i (by omega)]
    rw [dn_s, p30] at V
    exact al_div V
theorem s_Na_modulo {dv : Int} (hd : 0 < dv ∧ dv < 1073741824) (hO : mOk M) (h : Nt M a Y Cy s) : Ci G y_Na_modulo d [vr a, vi dv] M (fun x M' => M' = M ∧ 0 ≤ x ∧ x < dv) := by
  obtain ⟨hl, h1, h2, h3, h4⟩ := id h
  obtain ⟨k0, r0, kY, nY, ⟨c1, c2⟩, ne, z1, z2⟩ := id hl
  refine k_Na_modulo hO (l30i ⟨by omega, hd.2⟩) ⟨k0, ?_⟩
  rw [h1]
  suffices HH : ∀ (i : Nat) (r : Int), i ≤ s → (0 ≤ r ∧ r < dv) → h_Na_modulo_10 G d a dv r ((i : Int) - 1) M (fun x M' => M' = M ∧ 0 ≤ x ∧ x < dv) from
    HH s 0 (Nat.le_refl _) ⟨by omega, by omega⟩
  intro i
  induction i with
  | zero =>
    intro r hi hr
    exact k_Na_modulo_10 hO (l30i ⟨by omega, hd.2⟩) (c30 ⟨hr.1, by omega⟩) ⟨by omega, by omega⟩ ⟨fun _ => ⟨rfl, hr⟩, fun y => absurd (Or.inl (by omega)) y⟩
  | succ i ih =>
    intro r hi hr
    obtain ⟨b1, b2, b3⟩ := dv_bd hd hr (h3 i (by omega))
    refine k_Na_modulo_10 hO (l30i ⟨by omega, hd.2⟩) (c30 ⟨hr.1, by omega⟩) ⟨by omega, by omega⟩ ⟨fun y => absurd y (by omega), fun y => ?_⟩
    rw [r0, nY, show Int.toNat (((i + 1 : Nat) : Int) - 1) = i by omega, j_shl ⟨by omega, by omega⟩, Int.tmod_eq_emod_of_nonneg b1.1]
    refine ⟨k0, kY, by omega, ⟨by omega, by omega⟩, by omega, ?_⟩
    rw [show ((i + 1 : Nat) : Int) - 1 + (-1) = ((i : Nat) : Int) - 1 by omega]
    exact ih _ (by omega) b3
theorem p2m {m k : Nat} (h : m ≤ k) : (2 : Int) ^ m ≤ 2 ^ k := by
  obtain ⟨t, rfl⟩ := Nat.le.dest h
  rw [Int.pow_add]
  have h1 : (1 : Int) ≤ 2 ^ t := Int.pow_pos (by decide)
  have h2 := Int.mul_le_mul_of_nonneg_left h1 (Int.le_of_lt (show (0 : Int) < 2 ^ m from Int.pow_pos (by decide)))
  omega
theorem p2l {m k : Nat} (h : (2 : Int) ^ m < 2 ^ k) : m < k := Classical.byContradiction (fun u => by
  have := p2m (m := k) (k := m) (by omega)
  omega)
/-- how many bits a number has -/
theorem s_Na_bits (hO : mOk M) (h : Nt M a Y Cy s) : Ci G y_Na_bits (d + 1) [vr a] M (fun x M' => M' = M ∧ ∃ n : Nat, x = ((n : Nat) : Int) ∧ n ≤ 30 * s ∧ dn (mI M Y) s < 2 ^ n ∧ (0 < s → 30 * (s - 1) < n ∧ 2 ^ (n - 1) ≤ dn (mI M Y) s) ∧ (s = 0 → n = 0)) := by
  obtain ⟨hl, h1, h2, h3, h4⟩ := id h
  obtain ⟨k0, r0, kY, nY, ⟨c1, c2⟩, ne, z1, z2⟩ := id hl
  refine k_Na_bits hO ?_
  rw [h1, r0, nY]
  refine ⟨k0, fun y => ⟨rfl, 0, rfl, by omega, ?_, fun u => absurd u (by omega), fun _ => rfl⟩, fun y => ⟨kY, by omega, ?_⟩⟩
  · rw [show s = 0 by omega]
    exact (by decide : (0 : Int) < 2 ^ 0)
  · obtain ⟨t, rfl⟩ : ∃ t, s = t + 1 := ⟨s - 1, by omega⟩
    rw [show Int.toNat (((t + 1 : Nat) : Int) - 1) = t by omega]
    have ht := h3 t (by omega)
    have h0 : mI M Y t ≠ 0 := h4 (by omega)
    have hnn := dn_nn (n := t) (fun j hj => h3 j (by omega))
    have hlt := dn_lt (n := t) (fun j hj => h3 j (by omega))
    have hp := p30p t
    refine (s_nlz (by omega) (l30i ht) hO).mono (fun x M' q => ?_)
    obtain ⟨e, k, ek, k31, q1, q2⟩ := q
    rw [e]
    have kk : 31 - k < 30 := p2l (by rw [show (2 : Int) ^ 30 = 1073741824 by decide]; exact Int.lt_of_le_of_lt q1 ht.2)
    refine ⟨⟨by omega, by omega⟩, hO, rfl, 30 * (t + 1) + 2 - k, by omega, by omega, ?_, fun _ => ⟨by omega, ?_⟩, fun u => absurd u (by omega)⟩
    · rw [show 30 * (t + 1) + 2 - k = (32 - k) + 30 * t by omega, Int.pow_add, dn_s]
      have a1 := Int.mul_le_mul_of_nonneg_right (show mI M Y t + 1 ≤ 2 ^ (32 - k) by omega) (Int.le_of_lt hp)
      rw [Int.add_mul] at a1
      omega
    · rw [show 30 * (t + 1) + 2 - k - 1 = (31 - k) + 30 * t by omega, Int.pow_add, dn_s]
      have a1 := Int.mul_le_mul_of_nonneg_right q1 (Int.le_of_lt hp)
      omega
end NAG
end
section
/-! The class's natural numbers: the bits from one on. -/
theorem bf_pure {N E P a0 a1 a2 : Int} {r : Nat} (hr : r < 30) (eN : N = E + P * (a0 + 1073741824 * (a1 + 1073741824 * a2))) (hE : 0 ≤ E ∧ E < P) : N / (P * 2 ^ r) = a0 / 2 ^ r + a1 * 2 ^ (30 - r) + a2 * 2 ^ (60 - r) := by
  have h1 : (2 : Int) ^ r * 2 ^ (30 - r) = 1073741824 := by rw [← Int.pow_add, show r + (30 - r) = 30 by omega]; decide
  have h2 : (2 : Int) ^ r * 2 ^ (60 - r) = 1073741824 * 1073741824 := by rw [← Int.pow_add, show r + (60 - r) = 60 by omega]; decide
  have hp : (0 : Int) < 2 ^ r := Int.pow_pos (by decide)
  rw [← Int.ediv_ediv_of_nonneg (by omega), eN, Int.add_mul_ediv_left _ _ (by omega), Int.ediv_eq_zero_of_lt hE.1 hE.2, Int.zero_add]
  have e : a0 + 1073741824 * (a1 + 1073741824 * a2) = a0 + 2 ^ r * (a1 * 2 ^ (30 - r) + a2 * 2 ^ (60 - r)) := by
    rw [Int.mul_add (2 ^ r), Int.mul_left_comm (2 ^ r) a1, h1, Int.mul_left_comm (2 ^ r) a2, h2]
    omega
  rw [e, Int.add_mul_ediv_left _ _ (by omega), Int.add_assoc]
theorem bf_top {N E P a0 a1 a2 : Int} {r : Nat} (eN : N = E + P * (a0 + 1073741824 * (a1 + 1073741824 * a2))) (hE : 0 ≤ E) (hP : 0 < P) (h0 : 0 ≤ a0) (h1 : 0 ≤ a1) (hN : N < P * (2 ^ r * 1152921504606846976)) : a2 < 2 ^ r := by
  have e1 : P * (a0 + 1073741824 * (a1 + 1073741824 * a2)) < P * (2 ^ r * 1152921504606846976) := by omega
  have e2 := Int.lt_of_mul_lt_mul_left e1 (Int.le_of_lt hP)
  omega
theorem sh_bd {x : Int} {k m : Nat} (h0 : 0 ≤ x) (h : x < 2 ^ m) (hk : m + k ≤ 60) : 0 ≤ x * 2 ^ k ∧ x * 2 ^ k < 1152921504606846976 := by
  have hp : (0 : Int) < 2 ^ k := Int.pow_pos (by decide)
  refine ⟨Int.mul_nonneg h0 (Int.le_of_lt hp), ?_⟩
  have h1 : x * 2 ^ k < 2 ^ m * 2 ^ k := Int.mul_lt_mul_of_pos_right h hp
  rw [← Int.pow_add] at h1
  have h2 : (2 : Int) ^ (m + k) ≤ 2 ^ 60 := by
    obtain ⟨t, ht⟩ := Nat.le.dest hk
    rw [← ht, Int.pow_add _ (m + k)]
    have h3 : (1 : Int) ≤ 2 ^ t := Int.pow_pos (by decide)
    have h4 := Int.mul_le_mul_of_nonneg_left h3 (Int.le_of_lt (show (0 : Int) < 2 ^ (m + k) from Int.pow_pos (by decide)))
    omega
  have h5 : (2 : Int) ^ 60 = 1152921504606846976 := by decide
  omega
theorem j_shlk {x : Int} (k : Nat) (hk : k < 64) (h : i64 (x * 2 ^ k)) : shlL x (k : Int) = x * 2 ^ k := by
  have e1 : ∀ k : Nat, k < 64 → ((((Int32.ofInt (k : Int)).toInt64 &&& 63).toBitVec.smod 64)) = BitVec.ofNat 64 k := by decide
  unfold shlL
  show ((BitVec.ofInt 64 x) <<< ((((Int32.ofInt (k : Int)).toInt64 &&& 63).toBitVec.smod 64))).toInt = _
  rw [e1 k hk]
  have e : (BitVec.ofInt 64 x) <<< (BitVec.ofNat 64 k) = BitVec.ofInt 64 (x * 2 ^ k) := by
    rw [BitVec.shiftLeft_eq', BitVec.toNat_ofNat, Nat.mod_eq_of_lt (by omega), BitVec.ofInt_mul, BitVec.shiftLeft_eq_mul_twoPow]
    congr 1
    apply BitVec.eq_of_toNat_eq
    rw [BitVec.toNat_twoPow, BitVec.toNat_ofInt]
    norm_cast
  rw [e]
  exact i64_toInt h
section NAH
variable {G : mG} {d a Y Cy s : Nat} {M : mM}
/-- a limb, 0 where there is none -/
def lb (f : Nat → Int) (s j : Nat) : Int := if j < s then f j else 0
theorem lb_dn {f : Nat → Int} {s n : Nat} (h : s ≤ n) : dn (lb f s) n = dn f s := by
  rw [dn_z (s := s) h (fun j h1 _ => by unfold lb; rw [if_neg (by omega)])]
  exact dn_cg s (fun j hj => by unfold lb; rw [if_pos hj])
theorem lb_l {f : Nat → Int} {s j : Nat} (h : lms f s) : 0 ≤ lb f s j ∧ lb f s j < 1073741824 := by
  unfold lb
  by_cases u : j < s
  · rw [if_pos u]; exact h j u
  · rw [if_neg u]; omega
theorem lb_3 {f : Nat → Int} {q : Nat} : dn f (q + 3) = dn f q + 2 ^ (30 * q) * (f q + 1073741824 * (f (q + 1) + 1073741824 * f (q + 2))) := by
  show dn f q + f q * 2 ^ (30 * q) + f (q + 1) * 2 ^ (30 * (q + 1)) + f (q + 2) * 2 ^ (30 * (q + 1 + 1)) = _
  rw [p30 (q + 1), p30 q]
  generalize (2 : Int) ^ (30 * q) = p
  grind
theorem s_Na_bitsFrom {bit : Nat} (hO : mOk M) (h : Nt M a Y Cy s) (hb : bit ≤ 1000000000) (hv : dn (mI M Y) s < 2 ^ (bit + 60)) : Cj G y_Na_bitsFrom d [vr a, vi bit] M (fun x M' => M' = M ∧ x = dn (mI M Y) s / 2 ^ bit) := by
  obtain ⟨hl, h1, h2, h3, h4⟩ := id h
  obtain ⟨k0, r0, kY, nY, ⟨c1, c2⟩, ne, z1, z2⟩ := id hl
  obtain ⟨q, r, eb, hr⟩ : ∃ q r, bit = 30 * q + r ∧ r < 30 := ⟨bit / 30, bit % 30, by omega, by omega⟩
  have sq : s ≤ q + 3 := by
    refine Classical.byContradiction (fun u => ?_)
    obtain ⟨t, rfl⟩ : ∃ t, s = t + 1 := ⟨s - 1, by omega⟩
    have a1 := dn_ge h3 (h4 (by omega))
    have a2 := p2m (m := bit + 60) (k := 30 * t) (by omega)
    omega
  have l0 := lb_l (j := q) h3
  have l1 := lb_l (j := q + 1) h3
  have l2 := lb_l (j := q + 2) h3
  have eN : dn (mI M Y) s = dn (lb (mI M Y) s) q + 2 ^ (30 * q) * (lb (mI M Y) s q + 1073741824 * (lb (mI M Y) s (q + 1) + 1073741824 * lb (mI M Y) s (q + 2))) := by rw [← lb_3, lb_dn sq]
  have hE : 0 ≤ dn (lb (mI M Y) s) q ∧ dn (lb (mI M Y) s) q < 2 ^ (30 * q) := ⟨dn_nn (fun j _ => lb_l h3), dn_lt (fun j _ => lb_l h3)⟩
  have t2 : lb (mI M Y) s (q + 2) < 2 ^ r := by
    refine bf_top eN hE.1 (p30p q) l0.1 l1.1 ?_
    rw [eb, show 30 * q + r + 60 = 30 * q + (r + 60) by omega, Int.pow_add, Int.pow_add] at hv
    exact hv
  have ans := bf_pure hr eN hE
  rw [← Int.pow_add, ← eb] at ans
  have ir : (r : Int) < 30 := by omega
  refine k_Na_bitsFrom hO ⟨by omega, by omega⟩ ?_
  rw [show Int.tdiv ((bit : Nat) : Int) 30 = ((q : Nat) : Int) by rw [Int.tdiv_eq_ediv_of_nonneg (by omega)]; omega, show Int.tmod ((bit : Nat) : Int) 30 = ((r : Nat) : Int) by rw [Int.tmod_eq_emod_of_nonneg (by omega)]; omega, h1, r0, nY, show ((q : Nat) : Int) + 1 = ((q + 1 : Nat) : Int) by omega, show ((q : Nat) : Int) + 2 = ((q + 2 : Nat) : Int) by omega, Int.toNat_natCast, Int.toNat_natCast, Int.toNat_natCast, show (30 : Int) - ((r : Nat) : Int) = ((30 - r : Nat) : Int) by omega, show (60 : Int) - ((r : Nat) : Int) = ((60 - r : Nat) : Int) by omega, j_sh1 r (by omega)]
  refine ⟨k0, fun y => ⟨kY, by omega⟩, fun v5 e5 => ⟨⟨by omega, by omega⟩, fun y => ⟨kY, by omega⟩, fun v12 e12 => ⟨⟨by omega, by omega⟩, fun y => ⟨kY, by omega⟩, fun v19 e19 => ⟨rfl, ?_⟩⟩⟩⟩
  rw [ans]
  have f5 : v5 = lb (mI M Y) s q / 2 ^ r := by
    rw [e5]
    unfold lb at l0 ⊢
    by_cases u : q < s
    · rw [if_neg (by omega), if_pos u]
      rw [if_pos u] at l0
      exact i_ush r (by omega) l0.1 (l30i l0)
    · rw [if_pos (by omega), if_neg u, Int.zero_ediv]
  have f12 : v12 = lb (mI M Y) s (q + 1) * 2 ^ (30 - r) := by
    rw [e12]
    unfold lb at l1 ⊢
    by_cases u : q + 1 < s
    · rw [if_neg (by omega), if_pos u]
      rw [if_pos u] at l1
      have bd := sh_bd (k := 30 - r) (m := 30) l1.1 (by rw [show (2 : Int) ^ 30 = 1073741824 by decide]; exact l1.2) (by omega)
      exact j_shlk (30 - r) (by omega) ⟨by omega, by omega⟩
    · rw [if_pos (by omega), if_neg u, Int.zero_mul]
  have f19 : v19 = lb (mI M Y) s (q + 2) * 2 ^ (60 - r) := by
    rw [e19]
    unfold lb at l2 t2 ⊢
    by_cases u : q + 2 < s
    · rw [if_neg (by omega), if_pos u]
      rw [if_pos u] at l2 t2
      have m1 : (2 : Int) ^ r ≤ 2 ^ 29 := p2m (by omega)
      have m2 : (2 : Int) ^ 29 = 536870912 := by decide
      have m3 : (0 : Int) < 2 ^ r := Int.pow_pos (by decide)
      rw [i_and r (by omega) (2 ^ r - 1) rfl ⟨by omega, by omega⟩, Int.emod_eq_of_lt l2.1 t2]
      have bd := sh_bd (k := 60 - r) (m := r) l2.1 t2 (by omega)
      exact j_shlk (60 - r) (by omega) ⟨by omega, by omega⟩
    · rw [if_pos (by omega), if_neg u, Int.zero_mul]
  rw [f5, f12, f19]
end NAH
end
section
/-! The class's natural numbers: a multiple of the divisor is taken off (Knuth's step). -/
section NAI
variable {G : mG} {d a b c Y Cy s n m X Cx w K e : Nat} {M M' M1 M2 M3 : mM} {v U V g : Int}
/-- the window's value -/
def wn (M : mM) (Y e n : Nat) : Int := dn (fun j => mI M Y (e + j)) n
theorem wn_ui {i : Nat} {x : Int} (hi : i < n) (q : M' = mUI M Y (e + i) x) : wn M' Y e n = wn M Y e n + (x - mI M Y (e + i)) * 2 ^ (30 * i) := by
  unfold wn
  have h := dn_up (f := fun j => mI M Y (e + j)) (g := fun j => mI M' Y (e + j)) hi (fun j _ hj' => by show mI M' Y (e + j) = mI M Y (e + j); rw [mI_ui Y (e + j) q, if_neg (fun u => hj' (by omega))])
  rw [h]
  show _ + (mI M' Y (e + i) - mI M Y (e + i)) * _ = _
  rw [mI_ui Y (e + i) q, if_pos ⟨rfl, rfl⟩]
theorem wn_cg (h : ∀ j, j < n → mI M' Y (e + j) = mI M Y (e + j)) : wn M' Y e n = wn M Y e n := dn_cg n h
theorem wn_nn (L : lim M Y K) (h : e + n ≤ K) : 0 ≤ wn M Y e n := dn_nn (fun j hj => L (e + j) (by omega))
theorem wn_lt (L : lim M Y K) (h : e + n ≤ K) : wn M Y e n < 2 ^ (30 * n) := dn_lt (fun j hj => L (e + j) (by omega))
/-- what a step leaves behind -/
def tmQ (M : mM) (Y K e n : Nat) (U V : Int) (x : Int) (M' : mM) : Prop := mOk M' ∧ FI (fun y => y = Y) M M' ∧ (0 ≤ x ∧ x < 1073741824) ∧ (∀ j, (j < e ∨ e + n < j) → mI M' Y j = mI M Y j) ∧ mI M' Y (e + n) = 0 ∧ lim M' Y K ∧ wn M' Y e n = U - x * V ∧ wn M' Y e n < V
theorem tm_hi {W p k R V : Int} (hW : 0 ≤ W ∧ W < p) (e : R = W + k * p) (hR : 0 ≤ R ∧ R < p) : k = 0 := by
  refine Classical.byContradiction (fun u => ?_)
  rcases (show 1 ≤ k ∨ k ≤ -1 by omega) with q | q
  · have := Int.mul_le_mul_of_nonneg_right (c := p) q (by omega)
    omega
  · have := Int.mul_le_mul_of_nonneg_right (c := p) q (by omega)
    omega
/-- the divisor comes back once -/
theorem s_tm234 {q0 W1 : Int} (h : Nl M a Y Cy) (k : Nt M b X Cx n) (hK : e + n < K) (hC : K ≤ Cy) (bY : b ≠ Y) (XY : X ≠ Y) (hg : 1 ≤ g ∧ g < 1073741824)
    (eR : U - (g - 1) * V = W1 + q0 * 2 ^ (30 * n) + V) (eV : V = dn (mI M X) n) (hR : 0 ≤ U - (g - 1) * V ∧ U - (g - 1) * V < V) : ∀ (t i : Nat) (c : Int) (M1 : mM), n ≤ i + t → i ≤ n → (0 ≤ c ∧ c ≤ 1) → mOk M1 → FI (fun x => x = Y) M M1 → lim M1 Y K → (∀ j, (j < e ∨ e + n < j) → mI M1 Y j = mI M Y j) → mI M1 Y (e + n) = 0 → wn M1 Y e n + c * 2 ^ (30 * i) = W1 + dn (mI M X) i → h_Na_takeMultiple_234 G d a b e n g c i M1 (tmQ M Y K e n U V) := by
  obtain ⟨⟨l0, p0, kX, nX, ⟨e1, e2⟩, -, y1, y2⟩, g1, g2, g3, g4⟩ := id k
  have cb := h.2.2.2.2.1.2
  have fin : ∀ (c : Int) (M1 : mM), (0 ≤ c ∧ c ≤ 1) → mOk M1 → FI (fun x => x = Y) M M1 → lim M1 Y K → (∀ j, (j < e ∨ e + n < j) → mI M1 Y j = mI M Y j) → mI M1 Y (e + n) = 0 → wn M1 Y e n + c * 2 ^ (30 * n) = W1 + dn (mI M X) n → tmQ M Y K e n U V (g - 1) M1 := by
    intro c M1 gc o F L E Z W
    have wl := wn_nn L (show e + n ≤ K by omega)
    have wh := wn_lt L (show e + n ≤ K by omega)
    have Vl := dn_lt g3
    have eR2 : U - (g - 1) * V = wn M1 Y e n + (c + q0) * 2 ^ (30 * n) := by
      rw [eR, eV, Int.add_mul]
      omega
    have z0 := tm_hi (V := V) ⟨wl, wh⟩ eR2 ⟨hR.1, by omega⟩
    rw [z0, Int.zero_mul, Int.add_zero] at eR2
    exact ⟨o, F, ⟨by omega, by omega⟩, E, Z, L, eR2.symm, by omega⟩
  intro t
  induction t with
  | zero =>
    intro i c M1 h1 h2 gc o F L E Z W
    have ei : i = n := by omega
    subst ei
    exact k_Na_takeMultiple_234 o ⟨by omega, by omega⟩ ⟨by omega, by omega⟩ ⟨by omega, by omega⟩ ⟨by omega, by omega⟩ ⟨by omega, by omega⟩ ⟨fun _ => fin c M1 gc o F L E Z W, fun y => absurd (Int.le_refl _) y⟩
  | succ t ih =>
    intro i c M1 h1 h2 gc o F L E Z W
    by_cases ei : i = n
    · exact ih i c M1 (by omega) h2 gc o F L E Z W
    have iX : mI M1 X = mI M X := F.2.2.2.2.2.2 X XY
    have Li := L (e + i) (by omega)
    have Xi := g3 i (by omega)
    have bd : i64 (c + (mI M1 Y (e + i) + mI M X i)) := ⟨by omega, by omega⟩
    refine k_Na_takeMultiple_234 o ⟨by omega, by omega⟩ ⟨by omega, by omega⟩ ⟨by omega, by omega⟩ ⟨by omega, by omega⟩ ⟨by omega, by omega⟩ ⟨fun y => absurd y (by omega), fun y => ?_⟩
    rw [F.1, F.2.1, F.2.2.1, h.2.1, h.2.2.2.1, p0, nX, iX, show ((e : Nat) : Int) + ((i : Nat) : Int) = ((e + i : Nat) : Int) by omega, Int.toNat_natCast, Int.toNat_natCast, j_and, j_shr bd]
    refine ⟨h.1, h.2.2.1, by omega, l0, kX, by omega, ⟨by omega, by omega⟩, by omega, m30i _, fun M27 e27 => ?_⟩
    rw [show ((i : Int) + 1) = ((i + 1 : Nat) : Int) by omega]
    refine ih (i + 1) _ M27 (by omega) (by omega) ⟨by omega, by omega⟩ (by rw [e27]; exact mOk_UI o (m30i _)) (F.trans (by rw [e27]; exact FI.ui rfl)) (lim_ui L (m30 _) e27) (fun j hj => by rw [mI_ui Y j e27, if_neg (fun q => by omega)]; exact E j hj) (by rw [mI_ui Y (e + n) e27, if_neg (fun q => by omega)]; exact Z) ?_
    rw [c_st (i := i) (wn_ui (M' := M27) (show i < n by omega) e27), dn_s (mI M X) i]
    have := al_add (D1 := wn M1 Y e n) (D0 := W1) (c := c) (f := 1) (l := mI M1 Y (e + i)) (p := 2 ^ (30 * i)) (e := dn (mI M X) i) (x := mI M X i) (by rw [Int.one_mul]; exact W)
    rw [Int.one_mul, Int.one_mul] at this
    exact this
theorem sb_bd {f c l x : Int} (hf : 0 ≤ f ∧ f < 1073741824) (hc : -1073741824 ≤ c ∧ c ≤ 0) (hl : 0 ≤ l ∧ l < 1073741824) (hx : 0 ≤ x ∧ x < 1073741824) : i64 (c + (l - f * x)) ∧ -1073741824 ≤ (c + (l - f * x)) / 1073741824 ∧ (c + (l - f * x)) / 1073741824 ≤ 0 := by
  have h1 := Int.mul_nonneg hf.1 hx.1
  have h2 : f * x ≤ 1073741823 * x := Int.mul_le_mul_of_nonneg_right (by omega) hx.1
  unfold i64
  omega
/-- the multiple is taken off -/
theorem s_tm132 (h : Nl M a Y Cy) (k : Nt M b X Cx n) (hK : e + n < K) (hC : K ≤ Cy) (bY : b ≠ Y) (XY : X ≠ Y) (hg : 0 ≤ g ∧ g < 1073741824) (hL : lim M Y K) (eU : U = wn M Y e (n + 1)) (eV : V = dn (mI M X) n) (hV : 0 < V) (q1 : U < (g + 1) * V) (q0 : (g - 1) * V ≤ U) : ∀ (t i : Nat) (c : Int) (M1 : mM), n ≤ i + t → i ≤ n → (-1073741824 ≤ c ∧ c ≤ 0) → mOk M1 → FI (fun x => x = Y) M M1 → lim M1 Y K → (∀ j, (j < e ∨ e + n ≤ j) → mI M1 Y j = mI M Y j) → wn M1 Y e n + c * 2 ^ (30 * i) = wn M Y e n - g * dn (mI M X) i → h_Na_takeMultiple_132 G d a b e n g c i M1 (tmQ M Y K e n U V) := by
  obtain ⟨⟨l0, p0, kX, nX, ⟨e1, e2⟩, -, y1, y2⟩, g1, g2, g3, g4⟩ := id k
  have cb := h.2.2.2.2.1.2
  intro t
  induction t with
  | zero =>
    intro i c M1 h1 h2 gc o F L E W
    have ei : i = n := by omega
    subst ei
    have En : mI M1 Y (e + i) = mI M Y (e + i) := E (e + i) (Or.inr (Nat.le_refl _))
    have Ln := hL (e + i) (by omega)
    have eU2 : U = wn M Y e i + mI M Y (e + i) * 2 ^ (30 * i) := eU
    have R : U - g * V = wn M1 Y e i + (c + mI M Y (e + i)) * 2 ^ (30 * i) := by
      rw [eU2, eV, Int.add_mul]
      omega
    have wl := wn_nn L (show e + i ≤ K by omega)
    have wh := wn_lt L (show e + i ≤ K by omega)
    have Vl := dn_lt g3
    have kq := kn_q q1 q0 R
    have hp := p30p i
    refine k_Na_takeMultiple_132 o ⟨by omega, by omega⟩ ⟨by omega, by omega⟩ ⟨by omega, by omega⟩ ⟨by omega, by omega⟩ ⟨by omega, by omega⟩ ⟨fun _ => ?_, fun y => absurd (Int.le_refl _) y⟩
    rw [F.1, F.2.1, F.2.2.1, h.2.1, h.2.2.2.1, show ((e : Nat) : Int) + ((i : Nat) : Int) = ((e + i : Nat) : Int) by omega, Int.toNat_natCast, En]
    refine ⟨h.1, h.2.2.1, by omega, by omega, fun M46 e46 => ⟨⟨by omega, by omega⟩, fun y => ?_, fun y => ?_⟩⟩
    · have neg := j_cn.1 y
      have o46 : mOk M46 := by rw [e46]; exact mOk_UI o ⟨by decide, by decide⟩
      have F46 : FI (fun x => x = Y) M M46 := F.trans (by rw [e46]; exact FI.ui rfl)
      have W46 : wn M46 Y e i = wn M1 Y e i := wn_cg (fun j hj => by rw [mI_ui Y (e + j) e46, if_neg (fun q => by omega)])
      have Rn : wn M1 Y e i + (c + mI M Y (e + i)) * 2 ^ (30 * i) < 0 := by
        have := Int.mul_le_mul_of_nonneg_right (show c + mI M Y (e + i) ≤ -1 by omega) (Int.le_of_lt hp)
        omega
      have hg1 : 1 ≤ g := by
        refine Classical.byContradiction (fun u => ?_)
        have : g = 0 := by omega
        rw [this, Int.zero_mul, Int.sub_zero] at R
        have := wn_nn hL (show e + (i + 1) ≤ K by omega)
        omega
      have r1 := kq.2 Rn
      refine s_tm234 (q0 := c + mI M Y (e + i)) (W1 := wn M1 Y e i) h k hK hC bY XY ⟨hg1, hg.2⟩ (by rw [Int.sub_mul, Int.one_mul]; omega) eV (by rw [Int.sub_mul, Int.one_mul]; omega) i 0 0 M46 (by omega) (by omega) ⟨by decide, by decide⟩ o46 F46 (lim_ui L ⟨by decide, by decide⟩ e46) (fun j hj => by rw [mI_ui Y j e46, if_neg (fun q => by omega)]; exact E j (by omega)) (by rw [mI_ui Y (e + i) e46, if_pos ⟨rfl, rfl⟩]) (by rw [W46]; show _ + 0 * _ = _ + (0 : Int); rw [Int.zero_mul])
    · have pos : 0 ≤ c + mI M Y (e + i) := by
        refine Classical.byContradiction (fun u => y (j_cn.2 (by omega)))
      have Rp : 0 ≤ wn M1 Y e i + (c + mI M Y (e + i)) * 2 ^ (30 * i) := by
        have := Int.mul_nonneg pos (Int.le_of_lt hp)
        omega
      have r1 := kq.1 Rp
      have z0 := tm_hi (V := V) ⟨wl, wh⟩ R ⟨by omega, by omega⟩
      have W46 : wn M46 Y e i = wn M1 Y e i := wn_cg (fun j hj => by rw [mI_ui Y (e + j) e46, if_neg (fun q => by omega)])
      rw [z0, Int.zero_mul, Int.add_zero] at R r1
      refine ⟨by rw [e46]; exact mOk_UI o ⟨by decide, by decide⟩, F.trans (by rw [e46]; exact FI.ui rfl), hg, fun j hj => by rw [mI_ui Y j e46, if_neg (fun q => by omega)]; exact E j (by omega), by rw [mI_ui Y (e + i) e46, if_pos ⟨rfl, rfl⟩], lim_ui L ⟨by decide, by decide⟩ e46, by rw [W46]; exact R.symm, by rw [W46]; exact r1⟩
  | succ t ih =>
    intro i c M1 h1 h2 gc o F L E W
    by_cases ei : i = n
    · exact ih i c M1 (by omega) h2 gc o F L E W
    have iX : mI M1 X = mI M X := F.2.2.2.2.2.2 X XY
    obtain ⟨b0, b1, b2⟩ := sb_bd hg gc (L (e + i) (by omega)) (g3 i (by omega))
    refine k_Na_takeMultiple_132 o ⟨by omega, by omega⟩ ⟨by omega, by omega⟩ ⟨by omega, by omega⟩ ⟨by omega, by omega⟩ ⟨by omega, by omega⟩ ⟨fun y => absurd y (by omega), fun y => ?_⟩
    rw [F.1, F.2.1, F.2.2.1, h.2.1, h.2.2.2.1, p0, nX, iX, show ((e : Nat) : Int) + ((i : Nat) : Int) = ((e + i : Nat) : Int) by omega, Int.toNat_natCast, Int.toNat_natCast, j_and, j_shr b0]
    refine ⟨h.1, h.2.2.1, by omega, l0, kX, by omega, by omega, m30i _, fun M27 e27 => ?_⟩
    rw [show ((i : Int) + 1) = ((i + 1 : Nat) : Int) by omega]
    refine ih (i + 1) _ M27 (by omega) (by omega) ⟨b1, b2⟩ (by rw [e27]; exact mOk_UI o (m30i _)) (F.trans (by rw [e27]; exact FI.ui rfl)) (lim_ui L (m30 _) e27) (fun j hj => by rw [mI_ui Y j e27, if_neg (fun q => by omega)]; exact E j hj) ?_
    rw [c_st (i := i) (wn_ui (M' := M27) (show i < n by omega) e27), dn_s (mI M X) i]
    exact al_sub W
end NAI
end
section
/-! The class's natural numbers: the guess, and the step as a whole. -/
section NAJ
variable {G : mG} {d a b c Y Cy s n m X Cx w K e : Nat} {M M' M1 M2 M3 : mM} {v U V g : Int}
theorem g_bd {g v2 : Int} (hg : 0 ≤ g ∧ g < 1073741824) (h : 0 ≤ v2 ∧ v2 < 1073741824) : i64 (g * v2) := by
  have h1 := Int.mul_nonneg hg.1 h.1
  have h2 : g * v2 ≤ 1073741823 * v2 := Int.mul_le_mul_of_nonneg_right (by omega) h.1
  unfold i64
  omega
/-- what the guess stands on -/
def gsS (P U V two u2 Ul v1 v2 Vl : Int) : Prop := 0 < P ∧ U = (two * 1073741824 + u2) * P + Ul ∧ V = (v1 * 1073741824 + v2) * P + Vl ∧ (0 ≤ Ul ∧ Ul < P) ∧ (0 ≤ u2 ∧ u2 < 1073741824) ∧ (0 ≤ v2 ∧ v2 < 1073741824) ∧ (0 ≤ Vl ∧ Vl < P) ∧ (1073741824 ≤ 2 * v1 ∧ v1 < 1073741824) ∧ U < V * 1073741824
theorem s_tm68 {P two u2 Ul v1 v2 Vl : Int} {Q : Int → mM → Prop} (S : gsS P U V two u2 Ul v1 v2 Vl) (hO : mOk M) (h : Nl M a Y Cy) (k : Nt M b X Cx n) (hn : 2 ≤ n) (hK : e + n < Cy) (e2 : mI M X (n - 2) = v2) (eu : mI M Y (e + n - 2) = u2) (hQ : ∀ g : Int, (0 ≤ g ∧ g < 1073741824) → U < (g + 1) * V → (g - 1) * V ≤ U → h_Na_takeMultiple_132 G d a b e n g 0 0 M Q) : ∀ (t i : Nat) (g : Int), 2 ≤ i + t → i ≤ 2 → (0 ≤ g ∧ g < 1073741824) → U < (g + 1) * V → (g - 2 + i) * V ≤ U → (0 ≤ two - g * v1 ∧ two - g * v1 < 2147483648 + i * 1073741824) → h_Na_takeMultiple_68 G d a b e n v1 g (two - g * v1) i M Q := by
  obtain ⟨hP, eU, eV, ⟨ul0, ul1⟩, ⟨u20, u21⟩, hv2, hVl, hv1, hUV⟩ := S
  obtain ⟨⟨l0, p0, kX, nX, ⟨e1, e2'⟩, -, y1, y2⟩, g1, g2, g3, g4⟩ := id k
  have cb := h.2.2.2.2.1.2
  intro t
  induction t with
  | zero =>
    intro i g h1 h2 hg q1 q0 hr
    have ei : i = 2 := by omega
    subst ei
    refine k_Na_takeMultiple_68 hO ⟨by omega, by omega⟩ ⟨by omega, by omega⟩ ⟨by omega, by omega⟩ ⟨by omega, by omega⟩ ⟨by omega, by omega⟩ ⟨by omega, by omega⟩ ⟨fun y => absurd (by omega) y, fun _ => hQ g hg q1 ?_, fun y => absurd (Or.inl (by omega)) y⟩
    have V0 : 0 ≤ V := by
      rw [eV]
      have := Int.mul_nonneg (show 0 ≤ v1 * 1073741824 + v2 by omega) (Int.le_of_lt hP)
      omega
    rw [show g - 2 + ((2 : Nat) : Int) = g by omega] at q0
    rw [Int.sub_mul, Int.one_mul]
    omega
  | succ t ih =>
    intro i g h1 h2 hg q1 q0 hr
    by_cases ei : i = 2
    · exact ih i g (by omega) h2 hg q1 q0 hr
    refine k_Na_takeMultiple_68 hO ⟨by omega, by omega⟩ ⟨by omega, by omega⟩ ⟨by omega, by omega⟩ ⟨by omega, by omega⟩ ⟨by omega, by omega⟩ ⟨by omega, by omega⟩ ?_
    rw [p0, nX, h.2.1, h.2.2.2.1, show Int.toNat (((n : Nat) : Int) - 2) = n - 2 by omega, show Int.toNat ((((e : Nat) : Int) + ((n : Nat) : Int)) - 2) = e + n - 2 by omega, e2, eu, j_shl ⟨by omega, by omega⟩]
    refine ⟨fun _ => ⟨l0, kX, by omega, h.1, h.2.2.1, by omega, g_bd hg hv2, ⟨by omega, by omega⟩⟩, fun y => ?_, fun y => ?_⟩
    · have y2 : g * v2 ≤ (two - g * v1) * 1073741824 + u2 := by
        rcases y with y | y
        · omega
        · exact j_cle.1 y
      exact hQ g hg q1 (kn_one hP eU eV ul0 hv2.1 hVl (by omega) hg y2)
    · have y2 : (two - g * v1) * 1073741824 + u2 < g * v2 := by
        refine Classical.byContradiction (fun u => y (Or.inr (j_cle.2 (by omega))))
      have gp : 1 ≤ g := by
        refine Classical.byContradiction (fun u => ?_)
        have g0 : g = 0 := by omega
        rw [g0, Int.zero_mul, Int.zero_mul] at y2
        rw [g0, Int.zero_mul] at hr
        omega
      have er : two - g * v1 + v1 = two - (g - 1) * v1 := by rw [Int.sub_mul, Int.one_mul]; omega
      rw [er, show ((i : Int) + 1) = ((i + 1 : Nat) : Int) by omega]
      refine ih (i + 1) (g - 1) (by omega) (by omega) ⟨by omega, by omega⟩ (kn_dec hP eU eV ul1 hVl.1 hg.1 y2) ?_ ⟨by omega, by omega⟩
      rw [show g - 1 - 2 + ((i + 1 : Nat) : Int) = g - 2 + (i : Int) by omega]
      exact q0
theorem two_bd {x y : Int} (hx : 0 ≤ x ∧ x < 1073741824) (hy : 0 ≤ y ∧ y < 1073741824) : 0 ≤ x * 1073741824 + y ∧ x * 1073741824 + y < 1152921504606846976 := by omega
/-- the first guess -/
theorem g_first {two v1 g : Int} (ht : 0 ≤ two) (hv : 0 < v1) (eg : g = if 1073741823 < two / v1 then 1073741823 else two / v1) : (0 ≤ g ∧ g < 1073741824) ∧ g * v1 ≤ two ∧ (g = 1073741823 ∨ two < (g + 1) * v1) := by
  have h0 := Int.ediv_nonneg ht (Int.le_of_lt hv)
  have h1 := Int.ediv_mul_le two (show v1 ≠ 0 by omega)
  have h2 := Int.lt_ediv_add_one_mul_self two hv
  by_cases c : 1073741823 < two / v1
  · rw [if_pos c] at eg
    have h3 : g * v1 ≤ two / v1 * v1 := Int.mul_le_mul_of_nonneg_right (by omega) (Int.le_of_lt hv)
    exact ⟨⟨by omega, by omega⟩, by omega, Or.inl eg⟩
  · rw [if_neg c] at eg
    rw [eg]
    exact ⟨⟨h0, by omega⟩, h1, Or.inr h2⟩
theorem s_Na_takeMultiple (hO : mOk M) (h : Nl M a Y Cy) (k : Nt M b X Cx n) (hn : 2 ≤ n) (hK : e + n < K) (hC : K ≤ Cy) (bY : b ≠ Y) (XY : X ≠ Y) (hL : lim M Y K) (top : 1073741824 ≤ 2 * mI M X (n - 1)) (hU : wn M Y e (n + 1) < dn (mI M X) n * 1073741824) : Ci G y_Na_takeMultiple (d + 1) [vr a, vr b, vi e] M (tmQ M Y K e n (wn M Y e (n + 1)) (dn (mI M X) n)) := by
  obtain ⟨⟨l0, p0, kX, nX, ⟨e1, e2⟩, -, y1, y2⟩, g1, g2, g3, g4⟩ := id k
  have cb := h.2.2.2.2.1.2
  obtain ⟨t, rfl⟩ : ∃ t, n = t + 2 := ⟨n - 2, by omega⟩
  have X1 := g3 (t + 1) (by omega)
  have X2 := g3 t (by omega)
  have Y1 := hL (e + (t + 2)) (by omega)
  have Y2 := hL (e + (t + 1)) (by omega)
  have Y3 := hL (e + t) (by omega)
  have b2 := two_bd Y1 Y2
  have eU : wn M Y e (t + 2 + 1) = ((mI M Y (e + (t + 2)) * 1073741824 + mI M Y (e + (t + 1))) * 1073741824 + mI M Y (e + t)) * 2 ^ (30 * t) + wn M Y e t := by
    show dn (fun j => mI M Y (e + j)) (t + 3) = _
    rw [lb_3]
    show wn M Y e t + 2 ^ (30 * t) * (mI M Y (e + t) + 1073741824 * (mI M Y (e + (t + 1)) + 1073741824 * mI M Y (e + (t + 2)))) = _
    generalize (2 : Int) ^ (30 * t) = p
    rw [Int.mul_comm p, show mI M Y (e + t) + 1073741824 * (mI M Y (e + (t + 1)) + 1073741824 * mI M Y (e + (t + 2))) = (mI M Y (e + (t + 2)) * 1073741824 + mI M Y (e + (t + 1))) * 1073741824 + mI M Y (e + t) by omega]
    omega
  have eV : dn (mI M X) (t + 2) = (mI M X (t + 1) * 1073741824 + mI M X t) * 2 ^ (30 * t) + dn (mI M X) t := by
    show dn (mI M X) t + mI M X t * 2 ^ (30 * t) + mI M X (t + 1) * 2 ^ (30 * (t + 1)) = _
    rw [p30, Int.add_mul, Int.mul_assoc, Int.mul_comm 1073741824]
    omega
  have S : gsS (2 ^ (30 * t)) (wn M Y e (t + 2 + 1)) (dn (mI M X) (t + 2)) (mI M Y (e + (t + 2)) * 1073741824 + mI M Y (e + (t + 1))) (mI M Y (e + t)) (wn M Y e t) (mI M X (t + 1)) (mI M X t) (dn (mI M X) t) := ⟨p30p t, eU, eV, ⟨wn_nn hL (by omega), wn_lt hL (by omega)⟩, Y3, X2, ⟨dn_nn (fun j hj => g3 j (by omega)), dn_lt (fun j hj => g3 j (by omega))⟩, ⟨top, X1.2⟩, hU⟩
  have v1 : 0 < mI M X (t + 1) := by
    have : 1073741824 ≤ 2 * mI M X (t + 1) := top
    omega
  refine k_Na_takeMultiple hO ⟨by omega, by omega⟩ ?_
  rw [g1, p0, nX, h.2.1, h.2.2.2.1, show Int.toNat (((t + 2 : Nat) : Int) - 1) = t + 1 by omega, show ((e : Nat) : Int) + ((t + 2 : Nat) : Int) = ((e + (t + 2) : Nat) : Int) by omega, show Int.toNat (((e + (t + 2) : Nat) : Int) - 1) = e + (t + 1) by omega, Int.toNat_natCast, j_shl ⟨by omega, by omega⟩, Int.tdiv_eq_ediv_of_nonneg b2.1]
  generalize eg : (if 1073741823 < (mI M Y (e + (t + 2)) * 1073741824 + mI M Y (e + (t + 1))) / mI M X (t + 1) then 1073741823 else (mI M Y (e + (t + 2)) * 1073741824 + mI M Y (e + (t + 1))) / mI M X (t + 1)) = g
  obtain ⟨f1, f2, f3⟩ := g_first b2.1 v1 eg.symm
  have dl : (mI M Y (e + (t + 2)) * 1073741824 + mI M Y (e + (t + 1))) / mI M X (t + 1) ≤ mI M Y (e + (t + 2)) * 1073741824 + mI M Y (e + (t + 1)) := Int.ediv_le_self _ b2.1
  have dp := Int.ediv_nonneg b2.1 (Int.le_of_lt v1)
  refine ⟨l0, kX, by omega, h.1, h.2.2.1, by omega, by omega, ⟨by omega, by omega⟩, by omega, ⟨by omega, by omega⟩, ?_⟩
  obtain ⟨hP, -, -, ⟨ul0, ul1⟩, ⟨u20, u21⟩, hv2, hVl, hv1, hUV⟩ := id S
  have V0 : 0 < dn (mI M X) (t + 2) := by
    have h1 : 2 ^ (30 * (t + 1)) ≤ dn (mI M X) (t + 2) := dn_ge g3 (g4 (by omega))
    exact Int.lt_of_lt_of_le (p30p (t + 1)) h1
  refine s_tm68 S hO h k hn (by omega) rfl (by rw [show e + (t + 2) - 2 = e + t by omega]) (fun g' hg' q1 q0 => ?_) 2 0 g (by omega) (by omega) f1 (kn_up hP eU eV ul1 u21 hv2.1 hVl.1 hUV f1.1 f3) ?_ ?_
  · exact s_tm132 h k hK hC bY XY hg' hL rfl rfl V0 q1 q0 (t + 2) 0 0 M (by omega) (by omega) ⟨by decide, by decide⟩ hO FI.refl hL (fun _ _ => rfl) (by show _ + 0 * _ = _ - _ * (0 : Int); rw [Int.zero_mul, Int.mul_zero, Int.add_zero, Int.sub_zero])
  · rw [show g - 2 + ((0 : Nat) : Int) = g - 2 by omega]
    exact kn_dn hP eU eV ul0 u20 hv2 hVl hv1.1 f1 f2
  · have := kn_rest hP eU eV ul0 u20 hv2.2 hVl.2 hv1.2 hUV f2 f3
    exact ⟨this.1, by omega⟩
end NAJ
end
section
/-! The class's natural numbers as a family: L their places, W how many limbs each may want. -/
section NAK
variable {G : mG} {d a b c Y Cy s n m X Cx w : Nat} {M M' M1 M2 M3 : mM} {v : Int} {L : List Nat} {W : Nat → Nat} {T T' : Nat → Prop}
def Nn (M : mM) (a : Nat) : Prop := ∃ s, Nt M a (mR M a 0) (cp M a) s
/-- how many limbs -/
def sz (M : mM) (a : Nat) : Nat := Int.toNat (mI M a 1)
/-- its value -/
def nv (M : mM) (a : Nat) : Int := dn (mI M (mR M a 0)) (sz M a)
def NF (L : List Nat) (W : Nat → Nat) (M : mM) : Prop := L.Nodup ∧ (∀ a, a ∈ L → Nn M a ∧ cp M a ≤ 2 * W a ∧ (2 ≤ W a ∧ W a ≤ 20000)) ∧ (∀ a b, a ∈ L → b ∈ L → mR M a 0 = mR M b 0 → a = b)
/-- the cells of the numbers of T -/
def nsS (M : mM) (T : Nat → Prop) (x : Nat) : Prop := T x ∨ ∃ t, T t ∧ x = mR M t 0
def RmN (L : List Nat) (M M' : mM) : Prop := mS M' + 2 * psum (cp M) L ≤ mS M + 2 * psum (cp M') L ∧ mZ M' + psum (fun p => cp M p / 4) L ≤ mZ M + psum (fun p => cp M' p / 4) L
/-- the numbers of T have changed -/
def NC (L : List Nat) (W : Nat → Nat) (T : Nat → Prop) (M M' : mM) : Prop := (mOk M' ∧ NF L W M') ∧ (∀ t, T t → t ∈ L) ∧ FA (nsS M T) T M M' ∧ (∀ t, T t → mR M' t 0 = mR M t 0 ∨ mZ M ≤ mR M' t 0) ∧ RmN L M M'
theorem Nt.sz (h : Nt M a Y Cy s) : sz M a = s := by unfold Jvm.Pilot.CChanceArenaLaw_law_r4447_bd93c6.sz; rw [h.2.1, Int.toNat_natCast]
theorem Nt.cp (h : Nt M a Y Cy s) : cp M a = Cy := by unfold Jvm.Pilot.CChanceArenaLaw_law_r4447_bd93c6.cp; rw [h.1.2.1, h.1.2.2.2.1]
theorem Nt.nn (h : Nt M a Y Cy s) : Nn M a := ⟨s, by rw [h.cp, h.1.2.1]; exact h⟩
theorem Nt.nv (h : Nt M a Y Cy s) : nv M a = dn (mI M Y) s := by unfold Jvm.Pilot.CChanceArenaLaw_law_r4447_bd93c6.nv; rw [h.sz, h.1.2.1]
theorem NF.nt (h : NF L W M) (ha : a ∈ L) : Nt M a (mR M a 0) (cp M a) (sz M a) := by
  obtain ⟨s, t⟩ := (h.2.1 a ha).1
  have e := t.sz
  rw [e]
  exact t
theorem NF.cb (h : NF L W M) (ha : a ∈ L) : cp M a ≤ 40000 := by have := h.2.1 a ha; omega
theorem NF.sc (h : NF L W M) (ha : a ∈ L) : sz M a ≤ cp M a := (h.nt ha).2.2.1
theorem NF.ne (h : NF L W M) (ha : a ∈ L) (hb : b ∈ L) (ab : a ≠ b) : mR M a 0 ≠ mR M b 0 := fun u => ab (h.2.2 a b ha hb u)
theorem NF.lt (h : NF L W M) (ha : a ∈ L) : a < mZ M ∧ mR M a 0 < mZ M := (h.nt ha).1.2.2.2.2.2.2
theorem NF.kd (h : NF L W M) (ha : a ∈ L) : mK M a = 10 := (h.nt ha).1.1
theorem NF.ka (h : NF L W M) (ha : a ∈ L) : mK M (mR M a 0) = 30 := (h.nt ha).1.2.2.1
/-- a number is no other's limbs -/
theorem NF.na (h : NF L W M) (ha : a ∈ L) (hb : b ∈ L) : a ≠ mR M b 0 := fun u => by
  have h1 := h.kd ha
  have h2 := h.ka hb
  rw [u, h2] at h1
  omega
theorem NF.nn0 (h : NF L W M) (ha : a ∈ L) : 0 ≤ nv M a := dn_nn (h.nt ha).2.2.2.1
theorem NF.vlt (h : NF L W M) (ha : a ∈ L) : nv M a < 2 ^ (30 * sz M a) := dn_lt (h.nt ha).2.2.2.1
/-- few limbs by a small value -/
theorem NF.szv (h : NF L W M) (ha : a ∈ L) (hv : nv M a < 2 ^ (30 * n)) : sz M a ≤ n := dn_sz (h.nt ha).2.2.2.1 (h.nt ha).2.2.2.2 hv
theorem NF.sz0 (h : NF L W M) (ha : a ∈ L) : sz M a = 0 ↔ nv M a = 0 := by
  constructor
  · intro u
    unfold nv
    rw [u]
    rfl
  · intro u
    have := h.szv (n := 0) ha (by rw [u]; decide)
    omega
theorem NF.sw (h : NF L W M) (ha : a ∈ L) : 2 ≤ W a ∧ W a ≤ 20000 := (h.2.1 a ha).2.2
theorem RmN.refl : RmN L M M := ⟨Nat.le_refl _, Nat.le_refl _⟩
theorem RmN.trans (h : RmN L M M1) (k : RmN L M1 M2) : RmN L M M2 := by
  obtain ⟨h1, h2⟩ := h
  obtain ⟨k1, k2⟩ := k
  exact ⟨by omega, by omega⟩
theorem NC.refl (hO : mOk M) (h : NF L W M) (hT : ∀ t, T t → t ∈ L) : NC L W T M M := ⟨⟨hO, h⟩, hT, FA.refl, fun _ _ => Or.inl rfl, RmN.refl⟩
theorem NC.trans (h : NC L W T M M1) (k : NC L W T M1 M2) : NC L W T M M2 := by
  obtain ⟨-, h2, h3, h4, h5⟩ := h
  obtain ⟨k1, -, k3, k4, k5⟩ := k
  refine ⟨k1, h2, h3.trans2 k3 ?_ (fun _ _ y => y), fun t ht => ?_, h5.trans k5⟩
  · intro x hx u
    rcases u with u | ⟨t, ht, u⟩
    · exact Or.inl u
    · rcases h4 t ht with q | q
      · exact Or.inr ⟨t, ht, by rw [u, q]⟩
      · omega
  · rcases k4 t ht with q | q
    · rw [q]; exact h4 t ht
    · exact Or.inr (Nat.le_trans h3.1.1 q)
theorem NC.mono (h : NC L W T M M1) (hT : ∀ t, T t → T' t) (hL : ∀ t, T' t → t ∈ L) (hr : NF L W M) : NC L W T' M M1 := by
  obtain ⟨h1, h2, h3, h4, h5⟩ := h
  refine ⟨h1, hL, h3.mono (fun x _ u => ?_) (fun x _ u => hT x u), fun t ht => ?_, h5⟩
  · rcases u with u | ⟨t, ht, u⟩
    · exact Or.inl (hT x u)
    · exact Or.inr ⟨t, hT t ht, u⟩
  · by_cases c : T t
    · exact h4 t c
    · refine Or.inl ?_
      rw [(h3.2 t (hr.lt (hL t ht)).1).2.2.2.1 c]
/-- what is not of T stays -/
theorem NC.num (h : NC L W T M M') (hF : NF L W M) (hb : b ∈ L) (hT : ¬ T b) : mR M' b = mR M b ∧ mI M' b = mI M b ∧ mI M' (mR M b 0) = mI M (mR M b 0) ∧ sz M' b = sz M b ∧ nv M' b = nv M b ∧ cp M' b = cp M b := by
  obtain ⟨-, h2, h3, h4, -⟩ := h
  obtain ⟨z1, z2⟩ := hF.lt hb
  have n1 : ¬ nsS M T b := by
    rintro (u | ⟨t, ht, u⟩)
    · exact hT u
    · exact hF.na hb (h2 t ht) u
  have n2 : ¬ nsS M T (mR M b 0) := by
    rintro (u | ⟨t, ht, u⟩)
    · exact hF.na (h2 _ u) hb rfl
    · exact hT (by rw [hF.2.2 b t hb (h2 t ht) u]; exact ht)
  have a1 := (h3.2 b z1).2.2.2.1 hT
  have a2 := (h3.2 b z1).2.2.2.2 n1
  have a3 := (h3.2 _ z2).2.2.2.2 n2
  have a4 : sz M' b = sz M b := by unfold sz; rw [a2]
  refine ⟨a1, a2, a3, a4, ?_, ?_⟩
  · unfold nv
    rw [a4, a1, a3]
  · unfold cp
    rw [a1, (h3.2 _ z2).2.1]
theorem NC.nf (h : NC L W T M M') : NF L W M' := h.1.2
theorem NC.ok (h : NC L W T M M') : mOk M' := h.1.1
/-- one number's step -/
theorem NF.step (hF : NF L W M) (ha : a ∈ L) (hw : w ≤ W a) (h : nst M a (mR M a 0) (cp M a) w v M') : NC L W (fun x => x = a) M M' ∧ nv M' a = v := by
  obtain ⟨o, Y', C', s', t, e, F, g⟩ := h
  have W1 := hF.2.1 a ha
  have z := hF.lt ha
  have C4 : 4 ≤ cp M a := (hF.nt ha).1.2.2.2.2.1.1
  have F' : FA (nsS M (fun x => x = a)) (fun x => x = a) M M' := F.mono (fun x _ u => by
    rcases u with u | u
    · exact Or.inl u
    · exact Or.inr ⟨a, rfl, u⟩) (fun _ _ u => u)
  have ra : mR M' a 0 = Y' := t.1.2.1
  have ca : cp M' a = C' := t.cp
  have old : ∀ b, b ∈ L → b ≠ a → mR M' b 0 = mR M b 0 ∧ cp M' b = cp M b ∧ ∃ s, Nt M' b (mR M b 0) (cp M b) s := by
    intro b hb ba
    have zb := hF.lt hb
    have rb : mR M' b 0 = mR M b 0 := by rw [(F.2 b zb.1).2.2.2.1 ba]
    have n1 : ¬ (b = a ∨ b = mR M a 0) := by
      rintro (u | u)
      · exact ba u
      · exact hF.na hb ha u
    have n2 : ¬ (mR M b 0 = a ∨ mR M b 0 = mR M a 0) := by
      rintro (u | u)
      · exact hF.na ha hb u.symm
      · exact hF.ne hb ha ba u
    exact ⟨rb, by unfold cp; rw [rb, (F.2 _ zb.2).2.1], sz M b, (hF.nt hb).fa F n1 n2 ba⟩
  have ps1 := psum_one (f := cp M) (g := cp M') (p := a) L hF.1 ha (fun q hq hqa => (old q hq hqa).2.1)
  have ps2 := psum_one (f := fun p => cp M p / 4) (g := fun p => cp M' p / 4) (p := a) L hF.1 ha (fun q hq hqa => by show cp M' q / 4 = cp M q / 4; rw [(old q hq hqa).2.1])
  have g2 : (Y' = mR M a 0 ∨ mZ M ≤ Y') ∧ C' ≤ 2 * W a ∧ mS M' + 2 * cp M a ≤ mS M + 2 * C' ∧ mZ M' + cp M a / 4 ≤ mZ M + C' / 4 := by
    rcases g with ⟨g1, g2, g3, g4⟩ | ⟨g1, g2, g3, g4, g5⟩
    · exact ⟨Or.inl g1, by omega, by omega, by omega⟩
    · exact ⟨Or.inr (by omega), by omega, by omega, by omega⟩
  refine ⟨⟨⟨o, hF.1, fun b hb => ?_, fun b c hb hc u => ?_⟩, fun t ht => by rw [ht]; exact ha, F', fun t ht => by rw [ht, ra]; exact g2.1, ?_⟩, ?_⟩
  · by_cases ba : b = a
    · rw [ba]
      exact ⟨t.nn, by rw [ca]; exact g2.2.1, W1.2.2⟩
    · obtain ⟨r1, r2, s, ts⟩ := old b hb ba
      exact ⟨ts.nn, by rw [r2]; exact (hF.2.1 b hb).2.1, (hF.2.1 b hb).2.2⟩
  · by_cases ba : b = a
    · by_cases cca : c = a
      · rw [ba, cca]
      · rw [ba, ra, (old c hc cca).1] at u
        have zc := hF.lt hc
        rcases g2.1 with q | q
        · rw [ba]
          exact hF.2.2 a c ha hc (by rw [← q]; exact u)
        · omega
    · by_cases cca : c = a
      · rw [cca, ra, (old b hb ba).1] at u
        have zc := hF.lt hb
        rcases g2.1 with q | q
        · rw [cca]
          exact hF.2.2 b a hb ha (by rw [← q]; exact u)
        · omega
      · rw [(old b hb ba).1, (old c hc cca).1] at u
        exact hF.2.2 b c hb hc u
  · rw [ca] at ps1
    have ps2' : psum (fun p => cp M' p / 4) L + cp M a / 4 = psum (fun p => cp M p / 4) L + C' / 4 := by rw [← ca]; exact ps2
    exact ⟨by omega, by omega⟩
  · rw [t.nv]
    exact e
/-- ints of the numbers of T have changed -/
theorem NF.chg (hF : NF L W M) (hT : ∀ t, T t → t ∈ L) (f : FI (nsS M T) M M') (o : mOk M') (hn : ∀ t, T t → ∃ s, Nt M' t (mR M t 0) (cp M t) s) : NC L W T M M' := by
  have rr : ∀ b, mR M' b 0 = mR M b 0 := fun b => by rw [f.2.2.1]
  have cc : ∀ b, cp M' b = cp M b := fun b => by unfold cp; rw [f.2.2.1, f.2.1]
  refine ⟨⟨o, hF.1, fun b hb => ?_, fun b c hb hc u => ?_⟩, hT, f.fa, fun t _ => Or.inl (rr t), ?_⟩
  · refine ⟨?_, by rw [cc]; exact (hF.2.1 b hb).2.1, (hF.2.1 b hb).2.2⟩
    by_cases c : T b
    · obtain ⟨s, t⟩ := hn b c
      exact t.nn
    · refine ((hF.nt hb).fi f ?_ ?_).nn
      · rintro (u | ⟨t, ht, u⟩)
        · exact c u
        · exact hF.na hb (hT t ht) u
      · rintro (u | ⟨t, ht, u⟩)
        · exact hF.na (hT _ u) hb rfl
        · exact c (by rw [hF.2.2 b t hb (hT t ht) u]; exact ht)
  · rw [rr, rr] at u
    exact hF.2.2 b c hb hc u
  · unfold RmN
    rw [show cp M' = cp M from funext cc, f.2.2.2.2.1, f.2.2.2.2.2.1]
    exact ⟨Nat.le_refl _, Nat.le_refl _⟩
end NAK
end
section
/-! The class's natural numbers: division, the loop. -/
section NAL
variable {G : mG} {d a b q c e Y Z E Cy Cq Ce s n m w K P : Nat} {M M' M1 M2 M3 : mM} {v V A : Int}
/-- the quotient's limbs from t on -/
def qf (M : mM) (Z t P : Nat) : Int := dn (fun j => if t ≤ j then mI M Z j else 0) P
theorem qf_top : qf M Z P P = 0 := dn_z (s := 0) (by omega) (fun j _ h2 => by show (if P ≤ j then _ else _) = _; rw [if_neg (by omega)])
theorem qf_bot : qf M Z 0 P = dn (mI M Z) P := dn_cg P (fun j _ => by show (if 0 ≤ j then _ else _) = _; rw [if_pos (by omega)])
theorem qf_up {t : Nat} {x : Int} (ht : t < P) (u : M' = mUI M Z t x) : qf M' Z t P = qf M Z (t + 1) P + x * 2 ^ (30 * t) := by
  unfold qf
  have h := dn_up (f := fun j => if t + 1 ≤ j then mI M Z j else 0) (g := fun j => if t ≤ j then mI M' Z j else 0) ht (fun j _ hj => by
    show (if t ≤ j then mI M' Z j else 0) = (if t + 1 ≤ j then mI M Z j else 0)
    by_cases c : t ≤ j
    · rw [if_pos c, if_pos (by omega), mI_ui Z j u, if_neg (fun y => hj y.2)]
    · rw [if_neg c, if_neg (by omega)])
  rw [h]
  show _ + ((if t ≤ t then mI M' Z t else 0) - (if t + 1 ≤ t then mI M Z t else 0)) * _ = _
  rw [if_pos (Nat.le_refl _), if_neg (by omega), mI_ui Z t u, if_pos ⟨rfl, rfl⟩, Int.sub_zero]
/-- the value with its window at t -/
theorem dn_win {t : Nat} (h : t + n + 1 ≤ K) (z : ∀ j, t + n + 1 ≤ j → j < K → mI M Y j = 0) : dn (mI M Y) K = dn (mI M Y) t + 2 ^ (30 * t) * wn M Y t (n + 1) := by
  rw [dn_z (s := t + (n + 1)) h (fun j h1 h2 => z j h1 h2), dn_sp]
  rfl
theorem wn_s (M : mM) (Y t n : Nat) : wn M Y t (n + 1) = wn M Y t n + mI M Y (t + n) * 2 ^ (30 * n) := rfl
theorem wn_lo (M : mM) (Y t n : Nat) : wn M Y t (n + 1) = mI M Y t + 1073741824 * wn M Y (t + 1) n := by
  unfold wn
  rw [dn_lo]
  show mI M Y t + 1073741824 * dn (fun j => mI M Y (t + (1 + j))) n = mI M Y t + 1073741824 * dn (fun j => mI M Y (t + 1 + j)) n
  rw [dn_cg n (fun j _ => show mI M Y (t + (1 + j)) = mI M Y (t + 1 + j) by rw [show t + (1 + j) = t + 1 + j by omega])]
/-- what the loop leaves behind -/
def dvQ (M : mM) (a Y Cy q Z Cq : Nat) (sc V A : Int) (M' : mM) : Prop := mOk M' ∧ FI (fun x => (x = a ∨ x = Y) ∨ (x = q ∨ x = Z)) M M' ∧ ∃ sq sa R x, Nt M' q Z Cq sq ∧ Nt M' a Y Cy sa ∧ A = V * dn (mI M' Z) sq + R ∧ (0 ≤ R ∧ R < V) ∧ R = sc * dn (mI M' Y) sa + x ∧ (0 ≤ x ∧ x < sc)
theorem s_dvEnd {sc : Int} (hsc : 0 < sc ∧ sc < 1073741824) (h : Nl M a Y Cy) (h1 : mI M a 1 = ((m : Nat) : Int)) (hK : m + 1 ≤ Cy) (hq : Nl M q Z Cq) (hP : P ≤ Cq) (aq : a ≠ q) (YZ : Y ≠ Z) (o : mOk M1) (F : FI (fun x => x = Y ∨ x = Z) M M1) (L : lim M1 Y (m + 1)) (LZ : lim M1 Z P) (hn : n ≤ m) (z : ∀ j, n ≤ j → j < m + 1 → mI M1 Y j = 0) (hw : wn M1 Y 0 n < V) (hA : dn (mI M1 Y) (m + 1) + V * qf M1 Z 0 P = A) : mK M1 q = 10 ∧ Cv G y_Na_trim d [vr q, vi P] M1 (fun M67 => mOk M67 ∧ (mK M67 a = 10 ∧ Cv G y_Na_trim d [vr a, vi (mI M67 a 1)] M67 (fun M71 => mOk M71 ∧ (mK M71 a = 10 ∧ Ci G y_Na_divideSmall d [vr a, vi sc] M71 (fun x76 M75 => i32 x76 ∧ mOk M75 ∧ dvQ M a Y Cy q Z Cq sc V A M75))))) := by
  have aY : a ≠ Y := h.2.2.2.2.2.1
  have qZ : q ≠ Z := hq.2.2.2.2.2.1
  have aZ : a ≠ Z := fun u => by have h1 := h.1; have h2 := hq.2.2.1; rw [u, h2] at h1; omega
  have qY : q ≠ Y := fun u => by have h1 := hq.1; have h2 := h.2.2.1; rw [u, h2] at h1; omega
  have n1 : ∀ x, x ≠ Y → x ≠ Z → mI M1 x = mI M x := fun x u1 u2 => F.2.2.2.2.2.2 x (fun u => u.elim u1 u2)
  refine ⟨by rw [F.1]; exact hq.1, (s_Na_trim o (hq.fi F) hP LZ).mono (fun M67 k => ?_)⟩
  obtain ⟨o67, F67, -, sq, -, tq, vq⟩ := k
  have F2 := (F.mono (S' := fun x => (x = a ∨ x = Y) ∨ (x = q ∨ x = Z)) (fun _ u => u.elim (fun u => Or.inl (Or.inr u)) (fun u => Or.inr (Or.inr u)))).trans (F67.mono (fun _ u => Or.inr (Or.inl u)))
  have y67 : mI M67 Y = mI M1 Y := F67.2.2.2.2.2.2 Y (fun u => qY u.symm)
  have a67 : mI M67 a 1 = ((m : Nat) : Int) := by rw [F67.2.2.2.2.2.2 a aq, n1 a aY aZ]; exact h1
  rw [a67]
  refine ⟨o67, by rw [F2.1]; exact h.1, (s_Na_trim (n := m) o67 (h.fi F2) (by omega) (fun j hj => by rw [y67]; exact L j (by omega))).mono (fun M71 k => ?_)⟩
  obtain ⟨o71, F71, -, sa, -, ta, va⟩ := k
  have tq71 := tq.fi F71 (fun u => aq u.symm) (fun u => aZ u.symm)
  have F3 := F2.trans (F71.mono (fun _ u => Or.inl (Or.inl u)))
  refine ⟨o71, by rw [F3.1]; exact h.1, (s_Na_divideSmall hsc o71 ta).mono (fun x M75 k => ?_)⟩
  obtain ⟨hx, o75, F75, s', t', ve⟩ := k
  have qn : ¬ (q = a ∨ q = Y) := fun u => u.elim (fun u => aq u.symm) qY
  have Zn : ¬ (Z = a ∨ Z = Y) := fun u => u.elim (fun u => aZ u.symm) (fun u => YZ u.symm)
  have tq75 := tq71.fi F75 qn Zn
  have iZ : mI M75 Z = mI M67 Z := by rw [F75.2.2.2.2.2.2 Z Zn, F71.2.2.2.2.2.2 Z (fun u => aZ u.symm)]
  have z0 : mI M1 Y m = 0 := z m hn (by omega)
  have d1 : dn (mI M1 Y) (m + 1) = dn (mI M1 Y) m := by rw [dn_s, z0, Int.zero_mul, Int.add_zero]
  have d2 : dn (mI M1 Y) (m + 1) = wn M1 Y 0 n := by
    rw [dn_z (s := n) (by omega) z]
    exact dn_cg n (fun j _ => show mI M1 Y j = mI M1 Y (0 + j) by rw [show 0 + j = j by omega])
  have d3 := wn_nn (e := 0) (n := n) L (by omega)
  refine ⟨⟨by omega, by omega⟩, o75, o75, F3.trans (F75.mono (fun _ u => Or.inl u)), sq, s', dn (mI M1 Y) m, x, tq75, t', ?_, ⟨by omega, by omega⟩, ?_, hx⟩
  · rw [iZ, vq, ← d1, ← hA, qf_bot]
    omega
  · rw [← ve, va, y67]
/-- the loop -/
theorem s_dv134 {sc : Int} (hsc : 0 < sc ∧ sc < 1073741824) (h : Nl M a Y Cy) (h1 : mI M a 1 = ((m : Nat) : Int)) (hK : m + 1 ≤ Cy) (hq : Nl M q Z Cq) (hP : P ≤ Cq) (eP : P + n = m + 1) (hn : 2 ≤ n) (P0 : 0 < P) (k : Nt M e E Ce n) (aq : a ≠ q) (YZ : Y ≠ Z) (eY : e ≠ Y ∧ e ≠ Z) (EY : E ≠ Y ∧ E ≠ Z) (top : 1073741824 ≤ 2 * mI M E (n - 1)) (eV : V = dn (mI M E) n) : ∀ (t : Nat) (M1 : mM), t ≤ P → mOk M1 → FI (fun x => x = Y ∨ x = Z) M M1 → lim M1 Y (m + 1) → (∀ j, t ≤ j → j < P → 0 ≤ mI M1 Z j ∧ mI M1 Z j < 1073741824) → (∀ j, t + n ≤ j → j < m + 1 → mI M1 Y j = 0) → wn M1 Y t n < V → dn (mI M1 Y) (m + 1) + V * qf M1 Z t P = A → h_Na_divide_134 G (d + 1) a q e sc P ((t : Int) - 1) M1 (dvQ M a Y Cy q Z Cq sc V A) := by
  have aY : a ≠ Y := h.2.2.2.2.2.1
  have cb := h.2.2.2.2.1.2
  have cq := hq.2.2.2.2.1.2
  intro t
  induction t with
  | zero =>
    intro M1 ht o F L LZ z hw hA
    refine k_Na_divide_134 o ⟨by omega, by omega⟩ ⟨by omega, by omega⟩ ⟨by omega, by omega⟩ ⟨fun _ => ?_, fun y => absurd (by omega) y⟩
    exact s_dvEnd (n := n) hsc h h1 hK hq hP aq YZ o F L (fun j hj => LZ j (by omega) hj) (by omega) (fun j u1 u2 => z j (by omega) u2) hw hA
  | succ t ih =>
    intro M1 ht o F L LZ z hw hA
    have k1 : Nt M1 e E Ce n := k.fi F (fun u => u.elim eY.1 eY.2) (fun u => u.elim EY.1 EY.2)
    have iE : mI M1 E = mI M E := F.2.2.2.2.2.2 E (fun u => u.elim EY.1 EY.2)
    have hU : wn M1 Y t (n + 1) < dn (mI M1 E) n * 1073741824 := by
      rw [wn_lo, iE, ← eV]
      have := L t (by omega)
      omega
    refine k_Na_divide_134 o ⟨by omega, by omega⟩ ⟨by omega, by omega⟩ ⟨by omega, by omega⟩ ⟨fun y => absurd y (by omega), fun _ => ⟨by rw [F.1]; exact hq.1, by rw [F.1]; exact h.1, ?_⟩⟩
    rw [show ((t + 1 : Nat) : Int) - 1 = ((t : Nat) : Int) by omega]
    refine (s_Na_takeMultiple (K := m + 1) o (h.fi F) k1 hn (by omega) hK eY.1 EY.1 L (by rw [iE]; exact top) hU).mono (fun x M80 g => ?_)
    obtain ⟨o80, F80, hx, E80, z80, L80, w80, v80⟩ := g
    rw [iE, ← eV] at w80 v80
    have r1 : mR M1 q 0 = Z := by rw [F.2.2.1]; exact hq.2.1
    rw [r1, F80.1, F80.2.1, F.1, F.2.1, hq.2.2.2.1, Int.toNat_natCast]
    refine ⟨l30i hx, o80, hq.2.2.1, by omega, fun M85 e85 => ?_⟩
    have F85 : FI (fun x => x = Z) M80 M85 := by rw [e85]; exact FI.ui rfl
    have y85 : mI M85 Y = mI M80 Y := F85.2.2.2.2.2.2 Y YZ
    have iZ : mI M80 Z = mI M1 Z := F80.2.2.2.2.2.2 Z (fun u => YZ u.symm)
    have w85 : ∀ t n, wn M85 Y t n = wn M80 Y t n := fun t n => by unfold wn; rw [y85]
    have ww : dn (mI M80 Y) (m + 1) = dn (mI M1 Y) (m + 1) - 2 ^ (30 * t) * (x * V) := by
      rw [dn_win (M := M80) (t := t) (n := n) (by omega) (fun j u1 u2 => by rw [E80 j (Or.inr (by omega))]; exact z j (by omega) u2), dn_win (M := M1) (t := t) (n := n) (by omega) (fun j u1 u2 => z j (by omega) u2), wn_s M80, z80, Int.zero_mul, Int.add_zero, w80, Int.mul_sub, dn_cg t (fun j hj => E80 j (Or.inl hj))]
      omega
    rw [show ((t : Nat) : Int) + (-1) = ((t : Nat) : Int) - 1 by omega]
    refine ih M85 (by omega) (by rw [e85]; exact mOk_UI o80 (l30i hx)) ((F.trans (F80.mono (fun _ u => Or.inl u))).trans (F85.mono (fun _ u => Or.inr u))) (fun j hj => by rw [y85]; exact L80 j hj) (fun j u1 u2 => ?_) (fun j u1 u2 => ?_) (by rw [w85]; exact v80) ?_
    · rw [mI_ui Z j e85]
      by_cases c : j = t
      · rw [if_pos ⟨rfl, c⟩]; exact hx
      · rw [if_neg (fun u => c u.2), iZ]; exact LZ j (by omega) u2
    · rw [y85]
      by_cases c : j = t + n
      · rw [c]; exact z80
      · rw [E80 j (Or.inr (by omega))]; exact z j (by omega) u2
    · have q80 : qf M80 Z (t + 1) P = qf M1 Z (t + 1) P := by unfold qf; rw [iZ]
      rw [y85, ww, qf_up (M' := M85) (by omega) e85, q80, ← hA, Int.mul_add, Int.mul_comm (2 ^ (30 * t)), Int.mul_comm x V, Int.mul_assoc]
      omega
end NAL
end
section
/-! The family's steps. -/
section NAM
variable {G : mG} {d a b c q e Y Cy s n m X Cx w : Nat} {M M' M1 M2 M3 : mM} {v : Int} {L : List Nat} {W : Nat → Nat} {T T' : Nat → Prop}
theorem s_Na_reserveV {Y' C' : Nat} (h : Nt M a Y Cy s) (o : mOk M1) (hl : Nl M1 a Y' C') (hC : Cy ≤ C') (F : FA (fun _ => False) (fun x => x = a) M M1) (I : ∀ j, j < Cy → mI M1 Y' j = mI M Y j) (g : rsv M a Y Cy w Y' C' M1) : nst M a Y Cy w (dn (mI M Y) s) M1 ∧ Nt M1 a Y' C' s := by
  obtain ⟨hl0, h1, h2, h3, h4⟩ := h
  have z1 := hl0.2.2.2.2.2.2.1
  have t : Nt M1 a Y' C' s := ⟨hl, by rw [(F.2 a z1).2.2.2.2 (fun u => u)]; exact h1, by omega, fun j hj => by rw [I j (by omega)]; exact h3 j hj, fun u => by rw [I _ (by omega)]; exact h4 u⟩
  exact ⟨nst_rs F g FI.refl o t (dn_cg s (fun j hj => I j (by omega))), t⟩
theorem f_reserve (hO : mOk M) (hF : NF L W M) (ha : a ∈ L) (hw : w ≤ W a) : Cv G y_Na_reserve (d + 2) [vr a, vi w] M (fun M' => NC L W (fun x => x = a) M M' ∧ nv M' a = nv M a ∧ sz M' a = sz M a ∧ w ≤ cp M' a) := by
  have h := hF.nt ha
  have hc := hF.cb ha
  have hs := hF.sw ha
  refine (s_Na_reserve hO h.1 (by omega) (by omega)).mono (fun M' k => ?_)
  obtain ⟨o, Y', C', hl, k1, k2, F, -, I, g⟩ := k
  obtain ⟨n1, t1⟩ := s_Na_reserveV h o hl k2 F I g
  obtain ⟨c1, c2⟩ := hF.step ha hw n1
  exact ⟨c1, c2, t1.sz, by rw [t1.cp]; exact k1⟩
theorem f_put0 {x : Int} (hx : 0 ≤ x ∧ x < 1073741824) (hO : mOk M) (hF : NF L W M) (ha : a ∈ L) : Cv G y_Na_put0 d [vr a, vi x] M (fun M' => NC L W (fun x => x = a) M M' ∧ nv M' a = x) :=
  (s_Na_put0v (w := 0) hx hO (hF.nt ha).1).mono (fun M' k => hF.step ha (Nat.zero_le _) k)
theorem f_putLong {x : Int} (hx : 0 ≤ x ∧ x < 1152921504606846976) (hO : mOk M) (hF : NF L W M) (ha : a ∈ L) : Cv G y_Na_putLong (d + 1) [vr a, vl x] M (fun M' => NC L W (fun x => x = a) M M' ∧ nv M' a = x) :=
  (s_Na_putLong (w := 0) hx hO (hF.nt ha).1).mono (fun M' k => hF.step ha (Nat.zero_le _) k)
theorem f_put1 (hO : mOk M) (hF : NF L W M) (ha : a ∈ L) (hb : b ∈ L) (ab : a ≠ b) (hw : sz M b ≤ W a) : Cv G y_Na_put1 (d + 1) [vr a, vr b] M (fun M' => NC L W (fun x => x = a) M M' ∧ nv M' a = nv M b) := by
  have hc := hF.cb ha
  have hs := hF.sw ha
  exact (s_Na_put1 hO (hF.nt ha).1 (hF.nt hb) ab (by omega) (by omega)).mono (fun M' k => hF.step ha hw k)
theorem f_multiply {f : Int} (hf : 1 ≤ f ∧ f < 1073741824) (hO : mOk M) (hF : NF L W M) (ha : a ∈ L) (hw : sz M a + 1 ≤ W a) : Cv G y_Na_multiply (d + 2) [vr a, vi f] M (fun M' => NC L W (fun x => x = a) M M' ∧ nv M' a = f * nv M a) := by
  have hc := hF.cb ha
  exact (s_Na_multiply hf hO (hF.nt ha) (by omega)).mono (fun M' k => hF.step ha hw k)
theorem f_add {f : Int} (hf : 0 ≤ f ∧ f < 1073741824) (hO : mOk M) (hF : NF L W M) (ha : a ∈ L) (hb : b ∈ L) (ab : a ≠ b) (h1 : sz M a + 1 ≤ W a) (h2 : sz M b + 1 ≤ W a) : Cv G y_Na_add (d + 3) [vr a, vr b, vi f] M (fun M' => NC L W (fun x => x = a) M M' ∧ nv M' a = nv M a + f * nv M b) := by
  have hc := hF.cb ha
  have hs := hF.sw ha
  by_cases u : sz M a ≤ sz M b
  · exact (s_Na_add (m := sz M b) hf hO (hF.nt ha) (hF.nt hb) ab (hF.ne ha hb ab) (by omega) u (Nat.le_refl _) (Or.inr rfl) (by omega)).mono (fun M' k => hF.step ha h2 k)
  · exact (s_Na_add (m := sz M a) hf hO (hF.nt ha) (hF.nt hb) ab (hF.ne ha hb ab) (by omega) (Nat.le_refl _) (by omega) (Or.inl rfl) (by omega)).mono (fun M' k => hF.step ha h1 k)
theorem f_putProduct (hO : mOk M) (hF : NF L W M) (ha : a ∈ L) (hb : b ∈ L) (hc : c ∈ L) (ab : a ≠ b) (ac : a ≠ c) (hw : sz M b + sz M c ≤ W a) : Cv G y_Na_putProduct (d + 3) [vr a, vr b, vr c] M (fun M' => NC L W (fun x => x = a) M M' ∧ nv M' a = nv M b * nv M c) := by
  have hcb := hF.cb ha
  have hs := hF.sw ha
  exact (s_Na_putProduct hO (hF.nt ha).1 (hF.nt hb) (hF.nt hc) ab ac (hF.ne ha hb ab) (hF.ne ha hc ac) (by omega) (by omega)).mono (fun M' k => hF.step ha hw k)
theorem f_divideSmall {dv : Int} (hd : 0 < dv ∧ dv < 1073741824) (hO : mOk M) (hF : NF L W M) (ha : a ∈ L) : Ci G y_Na_divideSmall d [vr a, vi dv] M (fun x M' => NC L W (fun x => x = a) M M' ∧ (0 ≤ x ∧ x < dv) ∧ nv M a = dv * nv M' a + x) := by
  refine (s_Na_divideSmall hd hO (hF.nt ha)).mono (fun x M' k => ?_)
  obtain ⟨hx, o, F, t, T, e⟩ := k
  obtain ⟨c1, c2⟩ := hF.step (w := 0) ha (Nat.zero_le _) (nst_fi T o F rfl)
  exact ⟨c1, hx, by rw [c2]; exact e⟩
/-- order, exactly -/
theorem or_pos {x y p f g : Int} (hx : 0 ≤ x ∧ x < p) (hy : 0 ≤ y ∧ y < p) (h : g < f) : y + g * p < x + f * p := by
  have := Int.mul_le_mul_of_nonneg_right (c := p) (show g + 1 ≤ f by omega) (by omega)
  rw [Int.add_mul] at this
  omega
def orQ (u v x : Int) : Prop := (x = 0 ∧ u = v) ∨ (x = 1 ∧ v < u) ∨ (x = -1 ∧ u < v)
theorem s_Na_orderV (hO : mOk M) (h : Nt M a Y Cy s) (k : Nt M b X Cx n) : Ci G y_Na_order d [vr a, vr b] M (fun x M' => M' = M ∧ orQ (dn (mI M Y) s) (dn (mI M X) n) x) := by
  obtain ⟨⟨k0, r0, kY, nY, ⟨c1, c2⟩, -⟩, h1, h2, h3, h4⟩ := h
  obtain ⟨⟨l0, p0, kX, nX, ⟨e1, e2⟩, -⟩, g1, g2, g3, g4⟩ := k
  refine k_Na_order hO ?_
  rw [h1, g1]
  refine ⟨k0, l0, fun y => ?_, fun y v7 e7 => ⟨rfl, ?_⟩⟩
  · have sn : s = n := by omega
    subst sn
    suffices HH : ∀ t : Nat, t ≤ s → dn (mI M Y) s - dn (mI M X) s = dn (mI M Y) t - dn (mI M X) t → h_Na_order_35 G d a b (((t : Nat) : Int) - 1) M (fun x M' => M' = M ∧ orQ (dn (mI M Y) s) (dn (mI M X) s) x) from HH s (Nat.le_refl _) rfl
    intro t
    induction t with
    | zero =>
      intro ht hd
      have e1 : dn (mI M Y) 0 = 0 := rfl
      have e2 : dn (mI M X) 0 = 0 := rfl
      exact k_Na_order_35 hO ⟨by omega, by omega⟩ ⟨fun _ => ⟨rfl, Or.inl ⟨rfl, by omega⟩⟩, fun y => absurd y (by omega)⟩
    | succ t ih =>
      intro ht hd
      refine k_Na_order_35 hO ⟨by omega, by omega⟩ ⟨fun y => absurd y (by omega), fun _ => ?_⟩
      rw [r0, p0, nY, nX, show Int.toNat (((t + 1 : Nat) : Int) - 1) = t by omega]
      have y1 : 0 ≤ dn (mI M Y) t ∧ dn (mI M Y) t < 2 ^ (30 * t) := ⟨dn_nn (fun j hj => h3 j (by omega)), dn_lt (fun j hj => h3 j (by omega))⟩
      have x1 : 0 ≤ dn (mI M X) t ∧ dn (mI M X) t < 2 ^ (30 * t) := ⟨dn_nn (fun j hj => g3 j (by omega)), dn_lt (fun j hj => g3 j (by omega))⟩
      rw [dn_s, dn_s] at hd
      refine ⟨k0, kY, by omega, l0, kX, by omega, fun y => ?_, fun y => ⟨by omega, by omega, fun v38 e38 => ⟨rfl, ?_⟩⟩⟩
      · rw [show ((t + 1 : Nat) : Int) - 1 + (-1) = ((t : Nat) : Int) - 1 by omega]
        rw [y] at hd
        exact ih (by omega) (by omega)
      · rw [e38]
        by_cases c : mI M X t ≤ mI M Y t
        · rw [if_pos c]
          have := or_pos y1 x1 (show mI M X t < mI M Y t by omega)
          exact Or.inr (Or.inl ⟨rfl, by omega⟩)
        · rw [if_neg c]
          have := or_pos x1 y1 (show mI M Y t < mI M X t by omega)
          exact Or.inr (Or.inr ⟨rfl, by omega⟩)
  · have big : ∀ {f g : Nat → Int} {s n : Nat}, lms f s → lms g n → (0 < n → g (n - 1) ≠ 0) → s < n → dn f s < dn g n := by
      intro f g s n hf hg h0 hs
      obtain ⟨t, rfl⟩ : ∃ t, n = t + 1 := ⟨n - 1, by omega⟩
      have a1 := dn_lt hf
      have a2 := dn_ge hg (h0 (by omega))
      have a3 := p30m (m := s) (k := t) (by omega)
      omega
    rw [e7]
    by_cases c : ((n : Nat) : Int) ≤ ((s : Nat) : Int)
    · rw [if_pos c]
      exact Or.inr (Or.inl ⟨rfl, big g3 h3 h4 (by omega)⟩)
    · rw [if_neg c]
      exact Or.inr (Or.inr ⟨rfl, big h3 g3 g4 (by omega)⟩)
theorem f_order (hO : mOk M) (hF : NF L W M) (ha : a ∈ L) (hb : b ∈ L) : Ci G y_Na_order d [vr a, vr b] M (fun x M' => M' = M ∧ orQ (nv M a) (nv M b) x) := s_Na_orderV hO (hF.nt ha) (hF.nt hb)
end NAM
end
section
/-! The family's division. -/
section NAN
variable {G : mG} {d a b c q e Y Cy s n m X Cx w : Nat} {M M' M1 M2 M3 : mM} {v : Int} {L : List Nat} {W : Nat → Nat} {T T' : Nat → Prop}
theorem NF.szm (h : NF L W M) (h' : NF L W M') (ha : a ∈ L) (hb : b ∈ L) (hv : nv M a ≤ nv M' b) : sz M a ≤ sz M' b := h.szv ha (Int.lt_of_le_of_lt hv (h'.vlt hb))
theorem NF.lts (h : NF L W M) (ha : a ∈ L) (hb : b ∈ L) (hs : sz M a < sz M b) : nv M a < nv M b := Classical.byContradiction (fun u => by
  have := h.szm h hb ha (by omega)
  omega)
theorem dv_fin {A B Q R sc r x : Int} (hs : 0 < sc) (e1 : sc * A = (sc * B) * Q + R) (hR : 0 ≤ R ∧ R < sc * B) (e2 : R = sc * r + x) (hx : 0 ≤ x ∧ x < sc) : A = B * Q + r ∧ r < B := by
  have h1 : sc * (A - B * Q - r) = x := by
    rw [Int.mul_sub, Int.mul_sub, e1, e2, Int.mul_assoc]
    omega
  have h2 : A - B * Q - r = 0 := by
    refine Classical.byContradiction (fun u => ?_)
    rcases (show 1 ≤ A - B * Q - r ∨ A - B * Q - r ≤ -1 by omega) with k | k
    · have := Int.mul_le_mul_of_nonneg_left k (Int.le_of_lt hs)
      omega
    · have := Int.mul_le_mul_of_nonneg_left k (Int.le_of_lt hs)
      omega
  refine ⟨by omega, ?_⟩
  have h3 : sc * r < sc * B := by omega
  exact Int.lt_of_mul_lt_mul_left h3 (Int.le_of_lt hs)
/-- the scale makes the divisor's highest limb large -/
theorem sc_top {k t : Nat} {V top low : Int} (hk : 2 ≤ k ∧ k ≤ 31) (eV : V = low + top * 2 ^ (30 * t)) (hl : 0 ≤ low ∧ low < 2 ^ (30 * t)) (q1 : 2 ^ (31 - k) ≤ top) (q2 : top < 2 ^ (32 - k)) : 2 ^ (k - 2) * V < 2 ^ (30 * (t + 1)) ∧ 536870912 * 2 ^ (30 * t) ≤ 2 ^ (k - 2) * V := by
  have e1 : (2 : Int) ^ (k - 2) * 2 ^ (32 - k) = 1073741824 := by rw [← Int.pow_add, show k - 2 + (32 - k) = 30 by omega]; decide
  have e2 : (2 : Int) ^ (k - 2) * 2 ^ (31 - k) = 536870912 := by rw [← Int.pow_add, show k - 2 + (31 - k) = 29 by omega]; decide
  have p0 : (0 : Int) < 2 ^ (k - 2) := Int.pow_pos (by decide)
  have p1 := p30p t
  have a1 : V < 2 ^ (32 - k) * 2 ^ (30 * t) := by
    have := Int.mul_le_mul_of_nonneg_right (show top + 1 ≤ 2 ^ (32 - k) by omega) (Int.le_of_lt p1)
    rw [Int.add_mul] at this
    omega
  have a2 : 2 ^ (31 - k) * 2 ^ (30 * t) ≤ V := by
    have := Int.mul_le_mul_of_nonneg_right q1 (Int.le_of_lt p1)
    omega
  have a3 := Int.mul_lt_mul_of_pos_left a1 p0
  have a4 := Int.mul_le_mul_of_nonneg_left a2 (Int.le_of_lt p0)
  rw [← Int.mul_assoc, e1] at a3
  rw [← Int.mul_assoc, e2] at a4
  rw [p30]
  exact ⟨by omega, a4⟩
theorem sc_bd {k : Nat} (hk : 2 ≤ k ∧ k ≤ 31) : (1 : Int) ≤ 2 ^ (k - 2) ∧ (2 : Int) ^ (k - 2) < 1073741824 := by
  have h1 : (0 : Int) < 2 ^ (k - 2) := Int.pow_pos (by decide)
  have h2 := p2m (m := k - 2) (k := 29) (by omega)
  have h3 : (2 : Int) ^ 29 = 536870912 := by decide
  omega
/-- a small divisor -/
theorem f_dvOne (hO : mOk M) (hF : NF L W M) (ha : a ∈ L) (hb : b ∈ L) (hq : q ∈ L) (ab : a ≠ b) (aq : a ≠ q) (bq : b ≠ q) (wq : sz M a ≤ W q) (s1 : sz M b = 1) : mK M q = 10 ∧ Cv G y_Na_put1 (d + 2) [vr q, vr a] M (fun M16 => mOk M16 ∧ (mK M16 b = 10 ∧ mK M16 (mR M16 b 0) = 30 ∧ ((0 : Int) ≤ 0 ∧ 0 < (mN M16 (mR M16 b 0) : Int)) ∧ mK M16 q = 10 ∧ Ci G y_Na_divideSmall (d + 2) [vr q, vi (mI M16 (mR M16 b 0) 0)] M16 (fun x24 M23 => i32 x24 ∧ mOk M23 ∧ (mK M23 a = 10 ∧ Cv G y_Na_put0 (d + 2) [vr a, vi x24] M23 (fun M27 => mOk M27 ∧ (NC L W (fun x => x = a ∨ x = q) M M27 ∧ nv M a = nv M b * nv M27 q + nv M27 a ∧ nv M27 a < nv M b)))))) := by
  have hTL : ∀ t, (t = a ∨ t = q) → t ∈ L := fun t u => u.elim (fun u => by rw [u]; exact ha) (fun u => by rw [u]; exact hq)
  refine ⟨hF.kd hq, (f_put1 hO hF hq ha (fun u => aq u.symm) wq).mono (fun M16 k => ?_)⟩
  obtain ⟨c1, v1⟩ := k
  have F1 := c1.nf
  obtain ⟨-, -, -, nb4, nb5, -⟩ := c1.num hF hb bq
  obtain ⟨-, -, -, na4, na5, -⟩ := c1.num hF ha aq
  have tb := F1.nt hb
  have lb0 := tb.2.2.2.1 0 (by rw [nb4, s1]; decide)
  have nz : mI M16 (mR M16 b 0) 0 ≠ 0 := by
    have := tb.2.2.2.2 (by rw [nb4, s1]; decide)
    rw [nb4, s1] at this
    exact this
  have vb : nv M b = mI M16 (mR M16 b 0) 0 := by
    rw [← nb5]
    unfold nv
    rw [nb4, s1]
    show 0 + mI M16 (mR M16 b 0) 0 * 2 ^ (30 * 0) = _
    rw [show (2 : Int) ^ (30 * 0) = 1 by decide]
    omega
  have cpb := tb.1.2.2.2.2.1.1
  refine ⟨c1.ok, F1.kd hb, F1.ka hb, ⟨by omega, by unfold cp at cpb; omega⟩, F1.kd hq, (f_divideSmall (dv := mI M16 (mR M16 b 0) 0) ⟨by omega, lb0.2⟩ c1.ok F1 hq).mono (fun x M23 k => ?_)⟩
  obtain ⟨c2, hx, v2⟩ := k
  have F2 := c2.nf
  refine ⟨⟨by omega, by omega⟩, c2.ok, F2.kd ha, (f_put0 ⟨hx.1, by omega⟩ c2.ok F2 ha).mono (fun M27 k => ?_)⟩
  obtain ⟨c3, v3⟩ := k
  obtain ⟨-, -, -, -, nq5, -⟩ := c3.num F2 hq (fun u => aq u.symm)
  refine ⟨c3.ok, ((c1.mono (fun _ u => Or.inr u) hTL hF).trans (c2.mono (fun _ u => Or.inr u) hTL F1)).trans (c3.mono (fun _ u => Or.inl u) hTL F2), ?_, ?_⟩
  · rw [vb, nq5, v3, ← v1, v2]
  · rw [v3, vb]; exact hx.2
/-- the window at the start -/
theorem dv_win {P : Nat} {V : Int} (hL : lim M Y (m + 1)) (z : mI M Y m = 0) (eP : P + (n + 1) = m + 1) (hV : 2 ^ (30 * n) ≤ V) : wn M Y P (n + 1) < V := by
  rw [wn_s, show P + n = m by omega, z, Int.zero_mul, Int.add_zero]
  exact Int.lt_of_lt_of_le (wn_lt hL (by omega)) hV
theorem dv_top {n : Nat} {f : Nat → Int} (hf : lms f (n + 1)) (h : 536870912 * 2 ^ (30 * n) ≤ dn f (n + 1)) : 1073741824 ≤ 2 * f n := by
  rw [dn_s] at h
  have h1 := dn_lt (n := n) (fun j hj => hf j (by omega))
  refine Classical.byContradiction (fun u => ?_)
  have h2 := Int.mul_le_mul_of_nonneg_right (show f n ≤ 536870911 by omega) (Int.le_of_lt (p30p n))
  omega
end NAN
end
