section
section
/-! The reference's sums: bring, divide. -/
def Sk (M : mM) (u : Nat) : Prop := mK M u = 18 ∧ mR M u 0 = u + 1 ∧ mR M u 1 = u + 6 ∧ mR M u 2 = u + 11 ∧ mR M u 3 = u + 13 ∧ mR M u 4 = u + 15 ∧ mR M u 5 = u + 17 ∧ mR M u 6 = u + 19
theorem Sk.fi {S : Nat → Prop} {M M' : mM} {u : Nat} (h : Sk M u) (f : FI S M M') : Sk M' u := by
  obtain ⟨f1, f2, f3, -⟩ := f
  unfold Sk at h ⊢
  rw [f1, f3]
  exact h
theorem W3.le {M : mM} {a r : Nat} {M2 : mM} {b r2 : Nat} (h : W3 M a r) (k : W3 M2 b r2) (hv : wv M a ≤ wv M2 b) : mI M a 1 ≤ mI M2 b 1 := by
  have h1 := h.size (k := (mI M2 b 1).toNat) (Int.lt_of_le_of_lt hv k.lt)
  have h2 := k.1.2.2.2.2.2.1
  omega
section SU
variable {G : mG} {d u a b r r2 : Nat} {M : mM}
theorem s_MU_bring {m : Int} (hm : m = 0 ∨ m = 1) (hO : mOk M) (hA : W3 M a r) (hr : mI M a 1 < r) (h3 : 3 ≤ r) : Cv G y_MU_bring (d + 1) [vr a, vi m] M (fun M' => mOk M' ∧ FI (fun x => x = a ∨ x = a + 1) M M' ∧ W3 M' a r ∧ wv M' a = 2 * wv M a + m) := by
  refine k_MU_bring hO ⟨by omega, by omega⟩ ⟨hA.1.1, ?_⟩
  refine (s_MW_isZero hO hA.1).mono (fun x M1 h1 => ?_)
  obtain ⟨e1, e2⟩ := h1
  subst e1
  have hz := hA.zero
  refine ⟨⟨by split at e2 <;> omega, by split at e2 <;> omega⟩, hO, fun hc => ⟨hA.1.1, ?_⟩, fun hc v hv => ⟨hA.1.1, ?_⟩⟩
  · refine (s_MW_twice hm hO hA hr (Or.inr (Or.inr trivial))).mono (fun M2 h2 => ?_)
    exact ⟨h2.1, h2⟩
  · have hv' : v = m := by rw [hv]; rcases hm with q | q <;> simp [q]
    have e0 : wv M1 a = 0 := by rw [← hz]; by_cases z : mI M1 a 1 = 0 <;> simp [z] at e2 <;> omega
    refine (s_MW_set (by omega) (by omega) ⟨by omega, by omega⟩ hO hA.1 h3).mono (fun M2 h2 => ?_)
    obtain ⟨g1, g2, g3, g4⟩ := h2
    exact ⟨g1, g1, g2, g3, by omega⟩
theorem half_pow (A : Int) (n : Nat) : A / 2 ^ (n + 1) = A / 2 ^ n / 2 := by
  have h : (0 : Int) < 2 ^ n := Int.pow_pos (by decide)
  rw [Int.pow_succ, Int.ediv_ediv, if_neg (fun q => by omega)]
  omega
theorem s_MU_divide0 (hO : mOk M) (hS : Sk M u) (hq : Wh M (u + 17) 900) (hs : Wh M (u + 19) 900) (hA : W3 M a r) (hB : W3 M b r2)
    (ha : a + 1 < u + 17 ∨ u + 20 < a) (hb : b + 1 < u + 17 ∨ u + 20 < b) (hb0 : 0 < wv M b) (sa : mI M a 1 < 900) (sb : mI M b 1 < 900) :
    Cv G y_MU_divide0 (d + 2) [vr u, vr a, vr b] M (fun M' => mOk M' ∧ FI (fun x => u + 17 ≤ x ∧ x ≤ u + 20) M M' ∧ W3 M' (u + 17) 900 ∧ W3 M' (u + 19) 900 ∧ wv M' (u + 17) = wv M a / wv M b ∧ wv M' (u + 19) = wv M a % wv M b) := by
  have hS0 := hS
  obtain ⟨s1, s2, s3, s4, s5, s6, s7, s8⟩ := hS
  refine k_MU_divide0 hO ?_
  rw [s7]
  refine ⟨s1, hq.1, (s_MW_set (by omega) (by omega) ⟨by omega, by omega⟩ hO hq (by omega)).mono (fun M1 h1 => ?_)⟩
  obtain ⟨g1, g2, g3, g4⟩ := h1
  have S1 := hS0.fi g2
  have hs1 : Wh M1 (u + 19) 900 := hs.out g2 (by omega)
  refine ⟨g1, ?_⟩
  rw [S1.2.2.2.2.2.2.2]
  refine ⟨S1.1, hs1.1, (s_MW_set (by omega) (by omega) ⟨by omega, by omega⟩ g1 hs1 (by omega)).mono (fun M2 h2 => ?_)⟩
  obtain ⟨k1, k2, k3, k4⟩ := h2
  have S2 := S1.fi k2
  have q2 := g3.out k2 (by omega) (by omega)
  have F2 : FI (fun x => u + 17 ≤ x ∧ x ≤ u + 20) M M2 := (g2.mono (fun x q => by omega)).trans (k2.mono (fun x q => by omega))
  have a2 := hA.out F2 (by omega) (by omega)
  have b2 := hB.out F2 (by omega) (by omega)
  refine ⟨k1, a2.1.1.1, (s_MW_places k1 a2.1).mono (fun x M3 h3 => ?_)⟩
  obtain ⟨e3, p1, p2, p3, p4⟩ := h3
  subst e3
  have r9 : (r : Int) < 100000 := by have := hA.1.2.2.2.2.1; omega
  refine ⟨⟨by omega, by omega⟩, k1, ?_⟩
  suffices H : ∀ (k : Nat) (l : Int) (M1 : mM), l + 1 = k → l < 2400000 → mOk M1 → FI (fun x => u + 17 ≤ x ∧ x ≤ u + 20) M M1 → W3 M1 (u + 17) 900 → W3 M1 (u + 19) 900 → wv M1 (u + 17) * wv M b + wv M1 (u + 19) = wv M a / 2 ^ k → wv M1 (u + 19) < wv M b → h_MU_divide0_23 G (d + 1) u a b l M1 (fun M' => mOk M' ∧ FI (fun x => u + 17 ≤ x ∧ x ≤ u + 20) M M' ∧ W3 M' (u + 17) 900 ∧ W3 M' (u + 19) 900 ∧ wv M' (u + 17) = wv M a / wv M b ∧ wv M' (u + 19) = wv M a % wv M b) by
    refine H x.toNat (x - 1) M3 (by omega) (by omega) k1 F2 q2.1 k3 ?_ (by omega)
    rw [q2.2, g4, k4, Int.ediv_eq_zero_of_lt hA.nonneg (by rw [← a2.2]; exact p3)]
    omega
  clear p1 p2 p3 p4 k3 k4 k2 k1 q2 a2 b2 S2 F2 g4 g3 g2 g1 S1 hs1 hs hq s2 s3 s4 s5 s6 s7 s8 s1
  intro k
  induction k with
  | zero =>
    intro l M1 hk hl hO1 F1 W1 W2 hv hlt
    refine k_MU_divide0_23 hO1 ⟨by omega, by omega⟩ ⟨fun _ => ⟨hO1, F1, W1, W2, ?_⟩, fun c => by omega⟩
    have h0 := W2.nonneg
    have e : wv M a = wv M1 (u + 17) * wv M b + wv M1 (u + 19) := by rw [hv]; simp
    rw [e]
    rw [Int.add_comm, Int.add_mul_ediv_right _ _ (by omega), Int.ediv_eq_zero_of_lt h0 hlt, Int.add_mul_emod_self_right, Int.emod_eq_of_lt h0 hlt]
    omega
  | succ k ih =>
    intro l M1 hk hl hO1 F1 W1 W2 hv hlt
    have S1 := hS0.fi F1
    obtain ⟨A1, ea⟩ := hA.out F1 (by omega) (by omega)
    obtain ⟨B1, eb⟩ := hB.out F1 (by omega) (by omega)
    have hlk : l.toNat = k := by omega
    refine k_MU_divide0_23 hO1 ⟨by omega, by omega⟩ ⟨fun c => by omega, fun _ => ⟨S1.1, A1.1.1, (s_MW_bit (by omega) ⟨by omega, by omega⟩ hO1 A1).mono (fun x M2 h2 => ?_)⟩⟩
    obtain ⟨e2, hx⟩ := h2
    subst e2
    have hx01 : x = 0 ∨ x = 1 := by split at hx <;> omega
    refine ⟨⟨by omega, by omega⟩, hO1, ?_⟩
    rw [S1.2.2.2.2.2.2.2]
    have sr : mI M2 (u + 19) 1 ≤ mI M2 b 1 := W2.le B1 (by omega)
    have zb : mI M2 b 1 = mI M b 1 := by rw [F1.2.2.2.2.2.2 b (by omega)]
    have za : mI M2 a 1 = mI M a 1 := by rw [F1.2.2.2.2.2.2 a (by omega)]
    refine (s_MU_bring hx01 hO1 W2 (by omega) (by omega)).mono (fun M3 h3 => ?_)
    obtain ⟨g1, g2, g3, g4⟩ := h3
    have S3 := S1.fi g2
    obtain ⟨Q3, eq3⟩ := W1.out g2 (by omega) (by omega)
    obtain ⟨B3, eb3⟩ := B1.out g2 (by omega) (by omega)
    refine ⟨g1, ?_⟩
    rw [S3.2.2.2.2.2.2.2]
    refine ⟨S3.1, g3.1.1, (s_MW_compare g1 g3 B3).mono (fun y M4 h4 => ?_)⟩
    obtain ⟨e4, hy⟩ := h4
    subst e4
    have F3 : FI (fun x => u + 17 ≤ x ∧ x ≤ u + 20) M M4 := F1.trans (g2.mono (fun x q => by omega))
    have hhalf := half_pow (wv M a) k
    rw [hhalf] at hv
    rw [ea, hlk] at hx
    have nq := W1.nonneg
    have nr := W2.nonneg
    have hXx : wv M a / 2 ^ k = 2 * (wv M a / 2 ^ k / 2) + x := by
      split at hx <;> omega
    have hXA : wv M a / 2 ^ k ≤ wv M a := Int.ediv_le_self _ hA.nonneg
    have hqA : wv M2 (u + 17) ≤ wv M a := by
      have : wv M2 (u + 17) * 1 ≤ wv M2 (u + 17) * wv M b := Int.mul_le_mul_of_nonneg_left (by omega) nq
      have : 0 ≤ wv M a / 2 ^ k := Int.ediv_nonneg hA.nonneg (Int.le_of_lt (Int.pow_pos (by decide)))
      omega
    have sq : mI M4 (u + 17) 1 ≤ mI M a 1 := Q3.le hA (by omega)
    refine ⟨⟨by split at hy <;> (try split at hy) <;> omega, by split at hy <;> (try split at hy) <;> omega⟩, g1, fun v hv31 => ⟨fun c => ⟨S3.1, ?_⟩, fun c => ⟨S3.1, by rw [S3.2.2.2.2.2.2.2]; exact g3.1.1, ?_⟩⟩⟩
    · rw [S3.2.2.2.2.2.2.1]
      have hyn : y < 0 := by split at hv31 <;> omega
      have hlt3 : wv M4 (u + 19) < wv M b := by
        split at hy
        · omega
        · split at hy <;> omega
      rw [c]
      refine (s_MU_bring (Or.inl rfl) g1 Q3 (by omega) (by omega)).mono (fun M5 h5 => ?_)
      obtain ⟨k1, k2, k3, k4⟩ := h5
      obtain ⟨R5, er5⟩ := g3.out k2 (by omega) (by omega)
      refine ⟨k1, ih (l + (-1)) M5 (by omega) (by omega) k1 (F3.trans (k2.mono (fun x q => by omega))) k3 R5 ?_ (by omega)⟩
      rw [k4, er5, g4, eq3, hXx, ← hv, Int.add_zero, Int.mul_assoc]
      omega
    · have hyn : ¬ y < 0 := by split at hv31 <;> omega
      have hge3 : wv M4 b ≤ wv M4 (u + 19) := by
        split at hy
        · omega
        · split at hy <;> omega
      have hv1 : v = 1 := by split at hv31 <;> omega
      rw [S3.2.2.2.2.2.2.2]
      refine (s_MW_less g1 g3 B3 (by omega) hge3).mono (fun M5 h5 => ?_)
      obtain ⟨k1, k2, k3, k4⟩ := h5
      obtain ⟨Q5, eq5⟩ := Q3.out k2 (by omega) (by omega)
      have S5 := S3.fi k2
      have zq : mI M5 (u + 17) 1 = mI M4 (u + 17) 1 := by rw [k2.2.2.2.2.2.2 (u + 17) (by omega)]
      refine ⟨k1, S5.1, ?_⟩
      rw [S5.2.2.2.2.2.2.1, hv1]
      refine (s_MU_bring (Or.inr rfl) k1 Q5 (by omega) (by omega)).mono (fun M6 h6 => ?_)
      obtain ⟨m1, m2, m3, m4⟩ := h6
      obtain ⟨R6, er6⟩ := k3.out m2 (by omega) (by omega)
      refine ⟨m1, ih (l + (-1)) M6 (by omega) (by omega) m1 ((F3.trans (k2.mono (fun x q => by omega))).trans (m2.mono (fun x q => by omega))) m3 R6 ?_ (by omega)⟩
      rw [m4, er6, k4, g4, eq5, eq3, hXx, ← hv, Int.add_mul, Int.mul_assoc]
      omega
end SU
end
section
/-! The reference's sums: the greatest common divisor. -/
def xn (M : mM) (a : Nat) : Nat := (wv M a).toNat
theorem xn_eq {M : mM} {a r : Nat} (h : W3 M a r) : (xn M a : Int) = wv M a := by
  have := h.nonneg
  unfold xn
  omega
theorem g_two {x y : Nat} (hx : x % 2 = 0) (hy : y % 2 = 0) : Nat.gcd x y = 2 * Nat.gcd (x / 2) (y / 2) := by
  have h := Nat.gcd_mul_left 2 (x / 2) (y / 2)
  rw [show 2 * (x / 2) = x by first | rfl | omega, show 2 * (y / 2) = y by first | rfl | omega] at h
  exact h
theorem g_odd {x y : Nat} (hx : x % 2 = 0) (hy : y % 2 = 1) : Nat.gcd (x / 2) y = Nat.gcd x y := by
  have hc : Nat.Coprime 2 y := by
    unfold Nat.Coprime
    rw [Nat.gcd_rec, hy]; rfl
  have h := Nat.Coprime.gcd_mul_left_cancel (x / 2) hc
  rw [show 2 * (x / 2) = x by first | rfl | omega] at h
  exact h.symm
theorem g_sub {x y : Nat} (h : x ≤ y) : Nat.gcd x (y - x) = Nat.gcd x y := by
  have e := Nat.gcd_add_self_right (m := x) (n := y - x)
  rw [show y - x + x = y by first | rfl | omega] at e
  exact e.symm
section SU
variable {G : mG} {d u : Nat} {M : mM}
abbrev gcS (u : Nat) : Nat → Prop := fun x => u + 11 ≤ x ∧ x ≤ u + 16
abbrev gcQ (M : mM) (u X Y : Nat) : mM → Prop := fun M' => mOk M' ∧ FI (gcS u) M M' ∧ W3 M' (u + 11) 900 ∧ W3 M' (u + 13) 900 ∧ Wh M' (u + 15) 900 ∧ wv M' (u + 11) = Nat.gcd X Y
abbrev gcI (M : mM) (u X Y : Nat) (M1 : mM) (l : Int) : Prop := mOk M1 ∧ FI (gcS u) M M1 ∧ W3 M1 (u + 11) 900 ∧ W3 M1 (u + 13) 900 ∧ Wh M1 (u + 15) 900 ∧ 0 < xn M1 (u + 11) ∧ 0 ≤ l ∧ l ≤ 21600 ∧ 2 ^ l.toNat * Nat.gcd (xn M1 (u + 11)) (xn M1 (u + 13)) = Nat.gcd X Y
theorem gcI.ok {M M1 : mM} {u X Y : Nat} {l : Int} (h : gcI M u X Y M1 l) : mOk M1 := h.1
theorem gcI.fi {M M1 : mM} {u X Y : Nat} {l : Int} (h : gcI M u X Y M1 l) : FI (gcS u) M M1 := h.2.1
theorem gcI.wx {M M1 : mM} {u X Y : Nat} {l : Int} (h : gcI M u X Y M1 l) : W3 M1 (u + 11) 900 := h.2.2.1
theorem gcI.wy {M M1 : mM} {u X Y : Nat} {l : Int} (h : gcI M u X Y M1 l) : W3 M1 (u + 13) 900 := h.2.2.2.1
theorem gcI.wz {M M1 : mM} {u X Y : Nat} {l : Int} (h : gcI M u X Y M1 l) : Wh M1 (u + 15) 900 := h.2.2.2.2.1
theorem gcI.px {M M1 : mM} {u X Y : Nat} {l : Int} (h : gcI M u X Y M1 l) : 0 < xn M1 (u + 11) := h.2.2.2.2.2.1
theorem gcI.l0 {M M1 : mM} {u X Y : Nat} {l : Int} (h : gcI M u X Y M1 l) : 0 ≤ l := h.2.2.2.2.2.2.1
theorem gcI.l1 {M M1 : mM} {u X Y : Nat} {l : Int} (h : gcI M u X Y M1 l) : l ≤ 21600 := h.2.2.2.2.2.2.2.1
theorem gcI.eq {M M1 : mM} {u X Y : Nat} {l : Int} (h : gcI M u X Y M1 l) : 2 ^ l.toNat * Nat.gcd (xn M1 (u + 11)) (xn M1 (u + 13)) = Nat.gcd X Y := h.2.2.2.2.2.2.2.2
theorem gcI_155 {X Y N : Nat} (hS : Sk M u) (hN : (Nat.gcd X Y : Int) < 16777216 ^ N) (hN9 : N < 900) : ∀ (k : Nat) (l m : Int) (M1 : mM), l - m = k → 0 ≤ m → l ≤ 21600 → mOk M1 → FI (gcS u) M M1 → W3 M1 (u + 11) 900 → W3 M1 (u + 13) 900 → Wh M1 (u + 15) 900 → 2 ^ k * xn M1 (u + 11) = Nat.gcd X Y → h_MU_common_155 G d u l m M1 (gcQ M u X Y) := by
  intro k
  induction k with
  | zero =>
    intro l m M1 hk h0 h1 hO1 F1 W1 W2 W4 he
    refine k_MU_common_155 hO1 ⟨by omega, by omega⟩ ⟨by omega, by omega⟩ ⟨fun _ => ⟨hO1, F1, W1, W2, W4, ?_⟩, fun c => by omega⟩
    have := xn_eq W1
    omega
  | succ k ih =>
    intro l m M1 hk h0 h1 hO1 F1 W1 W2 W4 he
    have S1 := hS.fi F1
    have ex := xn_eq W1
    have hle : xn M1 (u + 11) ≤ Nat.gcd X Y := by
      rw [← he]
      exact Nat.le_mul_of_pos_left _ (Nat.pow_pos (by decide))
    have hsz := W1.size (k := N) (by omega)
    refine k_MU_common_155 hO1 ⟨by omega, by omega⟩ ⟨by omega, by omega⟩ ⟨fun c => by omega, fun _ => ?_⟩
    rw [S1.2.2.2.1]
    refine ⟨S1.1, W1.1.1, (s_MW_twice (Or.inl rfl) hO1 W1 (by omega) (Or.inr (Or.inr trivial))).mono (fun M2 h2 => ?_)⟩
    obtain ⟨g1, g2, g3, g4⟩ := h2
    refine ⟨g1, ih l (m + 1) M2 (by omega) (by omega) h1 g1 (F1.trans (g2.mono (fun x q => by omega))) g3 (W2.out g2 (by omega) (by omega)).1 (W4.out g2 (by omega)) ?_⟩
    have e2 := xn_eq g3
    rw [← he, Nat.pow_succ, Nat.mul_assoc]
    congr 1
    omega
theorem gcI_62 {X Y N : Nat} (hS : Sk M u) (hN : (Nat.gcd X Y : Int) < 16777216 ^ N) (hN9 : N < 900) {M1 : mM} {l : Int} (h : gcI M u X Y M1 l) (hn : 0 < xn M1 (u + 13) → h_MU_common_72 G d u l M1 (gcQ M u X Y)) : h_MU_common_62 G d u l M1 (gcQ M u X Y) := by
  have S1 := hS.fi h.fi
  have ey := xn_eq h.wy
  have hz := h.wy.zero
  have hl0 := h.l0
  have hl1 := h.l1
  refine k_MU_common_62 h.ok ⟨by omega, by omega⟩ ?_
  rw [S1.2.2.2.2.1]
  refine ⟨S1.1, h.wy.1.1, (s_MW_isZero h.ok h.wy.1).mono (fun x M2 h2 => ?_)⟩
  obtain ⟨e2, hx⟩ := h2
  subst e2
  refine ⟨⟨by split at hx <;> omega, by split at hx <;> omega⟩, h.ok, fun c => hn ?_, fun c => ?_⟩
  · have := h.wy.nonneg
    by_cases z : mI M2 (u + 13) 1 = 0
    · rw [if_pos z] at hx
      omega
    · have : wv M2 (u + 13) ≠ 0 := fun q => z (hz.2 q)
      omega
  · have z : mI M2 (u + 13) 1 = 0 := Classical.byContradiction (fun z => by rw [if_neg z] at hx; omega)
    have e0 : xn M2 (u + 13) = 0 := by have := hz.1 z; omega
    refine gcI_155 hS hN hN9 l.toNat l 0 M2 (by omega) (by omega) hl1 h.ok h.fi h.wx h.wy h.wz ?_
    have := h.eq
    rw [e0, Nat.gcd_zero_right] at this
    exact this
theorem gcI_72 {X Y N : Nat} (hS : Sk M u) (hN : (Nat.gcd X Y : Int) < 16777216 ^ N) (hN9 : N < 900) : ∀ (n : Nat) (M1 : mM) (l : Int), gcI M u X Y M1 l → xn M1 (u + 11) % 2 = 1 → 0 < xn M1 (u + 13) → xn M1 (u + 11) + xn M1 (u + 13) ≤ n → h_MU_common_72 G (d + 1) u l M1 (gcQ M u X Y) := by
  intro n
  induction n with
  | zero => intro M1 l h ho hy hs; omega
  | succ n ih =>
    intro M1 l h ho hy hs
    have S1 := hS.fi h.fi
    have ex := xn_eq h.wx
    have ey := xn_eq h.wy
    have hl0 := h.l0
    have hl1 := h.l1
    refine k_MU_common_72 h.ok ⟨by omega, by omega⟩ ?_
    rw [S1.2.2.2.2.1]
    refine ⟨S1.1, h.wy.1.1, (s_MW_isOdd h.ok h.wy).mono (fun x M2 h2 => ?_)⟩
    obtain ⟨e2, hx⟩ := h2
    subst e2
    rw [S1.2.2.2.2.1, S1.2.2.2.1]
    refine ⟨⟨by split at hx <;> omega, by split at hx <;> omega⟩, h.ok, fun c => ⟨S1.1, h.wy.1.1, (s_MW_halve h.ok h.wy).mono (fun M3 h3 => ?_)⟩, fun c => ⟨S1.1, h.wx.1.1, (s_MW_compare h.ok h.wx h.wy).mono (fun y M3 h3 => ?_)⟩⟩
    · obtain ⟨g1, g2, g3, g4⟩ := h3
      have e3 := xn_eq g3
      have hx3 := h.wx.out g2 (by omega) (by omega)
      have exx : xn M3 (u + 11) = xn M2 (u + 11) := by unfold xn; rw [hx3.2]
      have hyy : xn M3 (u + 13) = xn M2 (u + 13) / 2 := by omega
      have hev : xn M2 (u + 13) % 2 = 0 := by split at hx <;> omega
      refine ⟨g1, ih M3 l ⟨g1, h.fi.trans (g2.mono (fun x q => by omega)), hx3.1, g3, h.wz.out g2 (by omega), by have := h.px; omega, hl0, hl1, ?_⟩ (by omega) (by omega) (by omega)⟩
      rw [exx, hyy, Nat.gcd_comm, g_odd hev ho, Nat.gcd_comm]
      exact h.eq
    · obtain ⟨e3, hc⟩ := h3
      subst e3
      have hod : xn M3 (u + 13) % 2 = 1 := by
        split at hx
        · omega
        · omega
      have hpx := h.px
      rw [S1.2.2.2.2.1, S1.2.2.2.1, S1.2.2.2.2.2.1]
      refine ⟨⟨by split at hc <;> (try split at hc) <;> omega, by split at hc <;> (try split at hc) <;> omega⟩, h.ok, fun q => ⟨S1.1, h.wy.1.1, ?_⟩, fun q => ⟨S1.1, h.wz.1, ?_⟩⟩
      · have hle : wv M3 (u + 11) ≤ wv M3 (u + 13) := by
          split at hc
          · omega
          · split at hc <;> omega
        refine (s_MW_less h.ok h.wy h.wx (by omega) hle).mono (fun M4 h4 => ?_)
        obtain ⟨g1, g2, g3, g4⟩ := h4
        have e3 := xn_eq g3
        have hx3 := h.wx.out g2 (by omega) (by omega)
        have exx : xn M4 (u + 11) = xn M3 (u + 11) := by unfold xn; rw [hx3.2]
        have hyy : xn M4 (u + 13) = xn M3 (u + 13) - xn M3 (u + 11) := by omega
        have hI : gcI M u X Y M4 l := ⟨g1, h.fi.trans (g2.mono (fun x q => by omega)), hx3.1, g3, h.wz.out g2 (by omega), by omega, hl0, hl1, by rw [exx, hyy, g_sub (by omega)]; exact h.eq⟩
        exact ⟨g1, gcI_62 hS hN hN9 hI (fun hp => ih M4 l hI (by omega) hp (by omega))⟩
      · have hgt : wv M3 (u + 13) < wv M3 (u + 11) := by
          split at hc
          · omega
          · split at hc <;> omega
        refine (s_MW_copy h.ok h.wz h.wx (by omega) h.wx.1.2.2.2.2.2.2).mono (fun M4 h4 => ?_)
        obtain ⟨g1, g2, g3, g4⟩ := h4
        have S4 := S1.fi g2
        obtain ⟨x4, vx4⟩ := h.wx.out g2 (by omega) (by omega)
        obtain ⟨y4, vy4⟩ := h.wy.out g2 (by omega) (by omega)
        refine ⟨g1, ?_⟩
        rw [S4.2.2.2.2.1, S4.2.2.2.1]
        refine ⟨S4.1, x4.1.1, (s_MW_copy g1 x4.1 y4 (by omega) y4.1.2.2.2.2.2.2).mono (fun M5 h5 => ?_)⟩
        obtain ⟨k1, k2, k3, k4⟩ := h5
        have S5 := S4.fi k2
        obtain ⟨z5, vz5⟩ := g3.out k2 (by omega) (by omega)
        obtain ⟨y5, vy5⟩ := y4.out k2 (by omega) (by omega)
        refine ⟨k1, ?_⟩
        rw [S5.2.2.2.2.1, S5.2.2.2.2.2.1]
        refine ⟨S5.1, y5.1.1, (s_MW_copy k1 y5.1 z5 (by omega) z5.1.2.2.2.2.2.2).mono (fun M6 h6 => ?_)⟩
        obtain ⟨m1, m2, m3, m4⟩ := h6
        have S6 := S5.fi m2
        obtain ⟨z6, vz6⟩ := z5.out m2 (by omega) (by omega)
        obtain ⟨x6, vx6⟩ := k3.out m2 (by omega) (by omega)
        refine ⟨m1, ?_⟩
        rw [S6.2.2.2.2.1, S6.2.2.2.1]
        refine ⟨S6.1, m3.1.1, (s_MW_less m1 m3 x6 (by omega) (by omega)).mono (fun M7 h7 => ?_)⟩
        obtain ⟨n1, n2, n3, n4⟩ := h7
        obtain ⟨z7, vz7⟩ := z6.out n2 (by omega) (by omega)
        obtain ⟨x7, vx7⟩ := x6.out n2 (by omega) (by omega)
        have e7 := xn_eq n3
        have e8 := xn_eq x7
        have exx : xn M7 (u + 11) = xn M3 (u + 13) := by omega
        have hyy : xn M7 (u + 13) = xn M3 (u + 11) - xn M3 (u + 13) := by omega
        have hI : gcI M u X Y M7 l := ⟨n1, (((h.fi.trans (g2.mono (fun x q => by omega))).trans (k2.mono (fun x q => by omega))).trans (m2.mono (fun x q => by omega))).trans (n2.mono (fun x q => by omega)), x7, n3, z7.1, by omega, hl0, hl1, by rw [exx, hyy, g_sub (by omega), Nat.gcd_comm]; exact h.eq⟩
        exact ⟨n1, gcI_62 hS hN hN9 hI (fun hp => ih M7 l hI (by omega) hp (by omega))⟩
theorem gcI_42 {X Y N : Nat} (hS : Sk M u) (hN : (Nat.gcd X Y : Int) < 16777216 ^ N) (hN9 : N < 900) : ∀ (n : Nat) (M1 : mM) (l : Int), gcI M u X Y M1 l → (xn M1 (u + 11) % 2 = 1 ∨ xn M1 (u + 13) % 2 = 1) → xn M1 (u + 11) ≤ n → h_MU_common_42 G (d + 1) u l M1 (gcQ M u X Y) := by
  intro n
  induction n with
  | zero => intro M1 l h ho hs; have := h.px; omega
  | succ n ih =>
    intro M1 l h ho hs
    have S1 := hS.fi h.fi
    have ex := xn_eq h.wx
    have hl0 := h.l0
    have hl1 := h.l1
    have hpx := h.px
    refine k_MU_common_42 h.ok ⟨by omega, by omega⟩ ?_
    rw [S1.2.2.2.1]
    refine ⟨S1.1, h.wx.1.1, (s_MW_isOdd h.ok h.wx).mono (fun x M2 h2 => ?_)⟩
    obtain ⟨e2, hx⟩ := h2
    subst e2
    rw [S1.2.2.2.1]
    refine ⟨⟨by split at hx <;> omega, by split at hx <;> omega⟩, h.ok, fun c => ⟨S1.1, h.wx.1.1, (s_MW_halve h.ok h.wx).mono (fun M3 h3 => ?_)⟩, fun c => ?_⟩
    · obtain ⟨g1, g2, g3, g4⟩ := h3
      have e3 := xn_eq g3
      have hy3 := h.wy.out g2 (by omega) (by omega)
      have eyy : xn M3 (u + 13) = xn M2 (u + 13) := by unfold xn; rw [hy3.2]
      have hxx : xn M3 (u + 11) = xn M2 (u + 11) / 2 := by omega
      have hev : xn M2 (u + 11) % 2 = 0 := by split at hx <;> omega
      refine ⟨g1, ih M3 l ⟨g1, h.fi.trans (g2.mono (fun x q => by omega)), g3, hy3.1, h.wz.out g2 (by omega), by omega, hl0, hl1, ?_⟩ (by omega) (by omega)⟩
      rw [eyy, hxx, g_odd hev (by omega)]
      exact h.eq
    · have hod : xn M2 (u + 11) % 2 = 1 := by split at hx <;> omega
      exact gcI_62 hS hN hN9 h (fun hp => gcI_72 hS hN hN9 _ M2 l h hod hp (Nat.le_refl _))
theorem s_MU_common (hO : mOk M) (hS : Sk M u) (hx : W3 M (u + 11) 900) (hy : W3 M (u + 13) 900) (hz : Wh M (u + 15) 900) (hp : 0 < wv M (u + 11)) (hs : mI M (u + 11) 1 < 900) :
    Cv G y_MU_common (d + 2) [vr u] M (gcQ M u (xn M (u + 11)) (xn M (u + 13))) := by
  refine k_MU_common hO ?_
  have ex0 := xn_eq hx
  have hlt := hx.lt
  have hsz := hx.1.2.2.2.2.2.1
  have hgle : Nat.gcd (xn M (u + 11)) (xn M (u + 13)) ≤ xn M (u + 11) := Nat.gcd_le_left _ (by omega)
  have hN : (Nat.gcd (xn M (u + 11)) (xn M (u + 13)) : Int) < 16777216 ^ (mI M (u + 11) 1).toNat := by omega
  suffices H : ∀ (n : Nat) (M1 : mM) (l : Int), gcI M u (xn M (u + 11)) (xn M (u + 13)) M1 l → 2 ^ l.toNat * xn M1 (u + 11) = xn M (u + 11) → xn M1 (u + 11) ≤ n → h_MU_common_2 G (d + 1) u l M1 (gcQ M u (xn M (u + 11)) (xn M (u + 13))) from
    H _ M 0 ⟨hO, FI.refl, hx, hy, hz, by omega, by omega, by omega, by simp⟩ (by simp) (Nat.le_refl _)
  intro n
  induction n with
  | zero => intro M1 l h hl hs; have := h.px; omega
  | succ n ih =>
    intro M1 l h hl hs
    have S1 := hS.fi h.fi
    have ex := xn_eq h.wx
    have ey := xn_eq h.wy
    have hl0 := h.l0
    have hl1 := h.l1
    have hpx := h.px
    refine k_MU_common_2 h.ok ⟨by omega, by omega⟩ ?_
    rw [S1.2.2.2.1]
    refine ⟨S1.1, h.wx.1.1, (s_MW_isOdd h.ok h.wx).mono (fun x M2 h2 => ?_)⟩
    obtain ⟨e2, hx⟩ := h2
    subst e2
    refine ⟨⟨by split at hx <;> omega, by split at hx <;> omega⟩, h.ok, fun c => ⟨S1.1, ?_⟩, fun c => ?_⟩
    · have hev : xn M2 (u + 11) % 2 = 0 := by split at hx <;> omega
      rw [S1.2.2.2.2.1]
      refine ⟨h.wy.1.1, (s_MW_isOdd h.ok h.wy).mono (fun y M3 h3 => ?_)⟩
      obtain ⟨e3, hy'⟩ := h3
      subst e3
      rw [S1.2.2.2.1]
      refine ⟨⟨by split at hy' <;> omega, by split at hy' <;> omega⟩, h.ok, fun c => ⟨S1.1, h.wx.1.1, (s_MW_halve h.ok h.wx).mono (fun M4 h4 => ?_)⟩, fun c => ?_⟩
      · have hey : xn M3 (u + 13) % 2 = 0 := by split at hy' <;> omega
        obtain ⟨g1, g2, g3, g4⟩ := h4
        have S4 := S1.fi g2
        obtain ⟨y4, vy4⟩ := h.wy.out g2 (by omega) (by omega)
        refine ⟨g1, S4.1, ?_⟩
        rw [S4.2.2.2.2.1]
        refine ⟨y4.1.1, (s_MW_halve g1 y4).mono (fun M5 h5 => ?_)⟩
        obtain ⟨k1, k2, k3, k4⟩ := h5
        obtain ⟨x5, vx5⟩ := g3.out k2 (by omega) (by omega)
        have e5 := xn_eq x5
        have e6 := xn_eq k3
        have hxx : xn M5 (u + 11) = xn M3 (u + 11) / 2 := by omega
        have hyy : xn M5 (u + 13) = xn M3 (u + 13) / 2 := by omega
        have hpow : 2 ^ (l + 1).toNat * xn M5 (u + 11) = xn M (u + 11) := by
          rw [show (l + 1).toNat = l.toNat + 1 by first | rfl | omega, Nat.pow_succ, Nat.mul_assoc, hxx, show 2 * (xn M3 (u + 11) / 2) = xn M3 (u + 11) by first | rfl | omega]
          exact hl
        have hl24 : l + 1 ≤ 21600 := by
          have h1 : 2 ^ (l + 1).toNat ≤ xn M (u + 11) := by
            rw [← hpow]
            exact Nat.le_mul_of_pos_right _ (by omega)
          have h2 : xn M (u + 11) < 2 ^ (24 * (mI M (u + 11) 1).toNat) := by
            have h3 := pow24 (mI M (u + 11) 1).toNat
            have h4 : ((2 ^ (24 * (mI M (u + 11) 1).toNat) : Nat) : Int) = 16777216 ^ (mI M (u + 11) 1).toNat := by
              rw [Int.natCast_pow]
              exact h3.symm
            omega
          have h5 := (Nat.pow_lt_pow_iff_right (a := 2) (by decide)).1 (Nat.lt_of_le_of_lt h1 h2)
          omega
        refine ⟨k1, ih M5 (l + 1) ⟨k1, (h.fi.trans (g2.mono (fun x q => by omega))).trans (k2.mono (fun x q => by omega)), x5, k3, (h.wz.out g2 (by omega)).out k2 (by omega), by omega, by omega, hl24, ?_⟩ hpow (by omega)⟩
        rw [show (l + 1).toNat = l.toNat + 1 by first | rfl | omega, Nat.pow_succ, Nat.mul_assoc, hxx, hyy, ← g_two hev hey]
        exact h.eq
      · have hoy : xn M3 (u + 13) % 2 = 1 := by split at hy' <;> omega
        exact gcI_42 hS hN (by omega) _ M3 l h (Or.inr hoy) (Nat.le_refl _)
    · have hox : xn M2 (u + 11) % 2 = 1 := by split at hx <;> omega
      exact gcI_42 hS hN (by omega) _ M2 l h (Or.inl hox) (Nat.le_refl _)
end SU
end
end
section
section
/-! The reference's sums: fractions in lowest terms. -/
def Fk (M : mM) (f : Nat) : Prop := mK M f = 19 ∧ mR M f 0 = f + 1 ∧ mR M f 1 = f + 3
theorem Fk.fi {S : Nat → Prop} {M M' : mM} {f : Nat} (h : Fk M f) (k : FI S M M') : Fk M' f := by
  obtain ⟨f1, f2, f3, -⟩ := k
  unfold Fk at h ⊢
  rw [f1, f3]
  exact h
def Fq (M : mM) (f r : Nat) : Prop := Fk M f ∧ W3 M (f + 1) r ∧ W3 M (f + 3) r ∧ (mI M f 2 = 0 ∨ mI M f 2 = 1) ∧ 0 < wv M (f + 3)
def Fc (M : mM) (f : Nat) : Prop := Nat.gcd (xn M (f + 1)) (xn M (f + 3)) = 1 ∧ (wv M (f + 1) = 0 → mI M f 2 = 0)
def sn (M : mM) (f : Nat) : Int := if mI M f 2 = 1 then - wv M (f + 1) else wv M (f + 1)
def sd (M : mM) (f : Nat) : Int := wv M (f + 3)
theorem Fq.out {S : Nat → Prop} {M M' : mM} {f r : Nat} (h : Fq M f r) (k : FI S M M') (hs : ∀ x, S x → x < f ∨ f + 4 < x) : Fq M' f r ∧ sn M' f = sn M f ∧ sd M' f = sd M f ∧ wv M' (f + 1) = wv M (f + 1) ∧ wv M' (f + 3) = wv M (f + 3) ∧ mI M' f = mI M f := by
  obtain ⟨h1, h2, h3, h4, h5⟩ := h
  have e1 := h2.out k (fun q => by have := hs _ q; omega) (fun q => by have := hs _ q; omega)
  have e2 := h3.out k (fun q => by have := hs _ q; omega) (fun q => by have := hs _ q; omega)
  have e3 : mI M' f = mI M f := k.2.2.2.2.2.2 f (fun q => by have := hs _ q; omega)
  refine ⟨⟨h1.fi k, e1.1, e2.1, by rw [e3]; exact h4, by rw [e2.2]; exact h5⟩, ?_, ?_, e1.2, e2.2, e3⟩
  · unfold sn; rw [e3, e1.2]
  · unfold sd; rw [e2.2]
abbrev szL : List Nat := [2, 4, 7, 9, 11, 13, 15, 17, 19]
def Sz (M : mM) (u : Nat) : Prop := Sk M u ∧ Fk M (u + 1) ∧ Fk M (u + 6) ∧ ∀ c, c ∈ szL → Wh M (u + c) 900
theorem Sz.wh {M : mM} {u : Nat} (h : Sz M u) (c : Nat) (hc : c ∈ szL) : Wh M (u + c) 900 := h.2.2.2 c hc
theorem Sz.step {M M' : mM} {u c a : Nat} (h : Sz M u) (hc : c ∈ szL) (ha : a = u + c) (f : FI (fun x => x = a ∨ x = a + 1) M M') (w : Wh M' a 900) : Sz M' u := by
  subst ha
  refine ⟨h.1.fi f, h.2.1.fi f, h.2.2.1.fi f, fun e he => ?_⟩
  by_cases q : e = c
  · rw [q]; exact w
  · refine (h.wh e he).out f ?_
    have h1 : ∀ e ∈ szL, ∀ c ∈ szL, e ≠ c + 1 := by decide
    have h2 := h1 e he c hc
    omega
theorem Sz.flag {M : mM} {u : Nat} {x : Int} (h : Sz M u) : Sz (mUI M (u + 1) 2 x) u := by
  have f : FI (fun x => x = u + 1) M (mUI M (u + 1) 2 x) := FI.ui rfl
  refine ⟨h.1.fi f, h.2.1.fi f, h.2.2.1.fi f, fun e he => (h.wh e he).out f ?_⟩
  have h1 : ∀ e ∈ szL, e ≠ 1 := by decide
  have h2 := h1 e he
  omega
theorem Sz.tp {M : mM} {u : Nat} (h : Sz M u) : mR M (u + 1) 0 = u + 2 := h.2.1.2.1
theorem Sz.bt {M : mM} {u : Nat} (h : Sz M u) : mR M (u + 1) 1 = u + 4 := h.2.1.2.2
theorem Fq.mo {S : Nat → Prop} {M M' : mM} {u r : Nat} (h : Fq M (u + 1) r) (k : FI S M M') (hs : ∀ x, S x → x < u + 1 ∨ u + 5 < x) : Fq M' (u + 1) r ∧ W3 M' (u + 2) r ∧ W3 M' (u + 4) r ∧ wv M' (u + 2) = wv M (u + 2) ∧ wv M' (u + 4) = wv M (u + 4) ∧ mI M' (u + 1) = mI M (u + 1) := by
  obtain ⟨h1, h2, h3, h4, h5, h6⟩ := h.out k hs
  exact ⟨h1, h1.2.1, h1.2.2.1, h4, h5, h6⟩
abbrev sS (u : Nat) : Nat → Prop := fun x => (u + 1 ≤ x ∧ x ≤ u + 5) ∨ (u + 11 ≤ x ∧ x ≤ u + 20)
abbrev stQ (M : mM) (u : Nat) : mM → Prop := fun M' => mOk M' ∧ FI (sS u) M M' ∧ Sz M' u ∧ Fq M' (u + 1) 900 ∧ Fc M' (u + 1) ∧ sn M' (u + 1) * sd M (u + 1) = sn M (u + 1) * sd M' (u + 1)
section SU
variable {G : mG} {d u : Nat} {M : mM}
theorem s_MU_settle (hO : mOk M) (hZ : Sz M u) (hF : Fq M (u + 1) 900) (s1 : mI M (u + 2) 1 < 900) (s2 : mI M (u + 4) 1 < 900) :
    Cv G y_MU_settle (d + 3) [vr u] M (stQ M u) := by
  have hF0 := hF
  have f1 := hF.1
  have f2 : W3 M (u + 2) 900 := hF.2.1
  have f3 : W3 M (u + 4) 900 := hF.2.2.1
  have f4 := hF.2.2.2.1
  have f5 : 0 < wv M (u + 4) := hF.2.2.2.2
  clear hF
  have S0 := hZ.1
  refine k_MU_settle hO ?_
  rw [S0.2.1, hZ.tp]
  refine ⟨S0.1, f1.1, f2.1.1, (s_MW_isZero hO f2.1).mono (fun x M1 h1 => ?_)⟩
  obtain ⟨e1, hx⟩ := h1
  subst e1
  have hz := f2.zero
  have ht0 := xn_eq f2
  have hb0 := xn_eq f3
  rw [S0.2.1, hZ.tp]
  refine ⟨⟨by split at hx <;> omega, by split at hx <;> omega⟩, hO, fun c => ⟨S0.1, f1.1, ?_⟩, fun c => ⟨S0.1, f1.1, fun M2 e2 => ?_⟩⟩
  · have hnz : wv M1 (u + 2) ≠ 0 := fun q => by have := hz.2 q; rw [if_pos this] at hx; omega
    have hn0 := f2.nonneg
    rw [S0.2.2.2.1]
    refine ⟨(hZ.wh 11 (by decide)).1, (s_MW_copy hO (hZ.wh 11 (by decide)) f2 (by omega) f2.1.2.2.2.2.2.2).mono (fun M2 h2 => ?_)⟩
    obtain ⟨g1, g2, g3, g4⟩ := h2
    have Z2 := hZ.step (c := 11) (by decide) rfl g2 g3.1
    have S2 := Z2.1
    have F2 := hF0.mo g2 (fun x q => by omega)
    refine ⟨g1, ?_⟩
    rw [S2.2.1, S2.2.2.2.2.1, Z2.bt]
    refine ⟨S2.1, Z2.2.1.1, (Z2.wh 13 (by decide)).1, (s_MW_copy g1 (Z2.wh 13 (by decide)) F2.2.2.1 (by omega) F2.2.2.1.1.2.2.2.2.2.2).mono (fun M3 h3 => ?_)⟩
    obtain ⟨k1, k2, k3, k4⟩ := h3
    have Z3 := Z2.step (c := 13) (by decide) rfl k2 k3.1
    have S3 := Z3.1
    have F3 := F2.1.mo k2 (fun x q => by omega)
    obtain ⟨x3, vx3⟩ := g3.out k2 (by omega) (by omega)
    have ex3 := xn_eq x3
    have ey3 := xn_eq k3
    have hf2 : wv M2 (u + 1 + 3) = wv M1 (u + 4) := F2.2.2.2.2.1
    have hxx : xn M3 (u + 11) = xn M1 (u + 2) := by omega
    have hyy : xn M3 (u + 13) = xn M1 (u + 4) := by omega
    have zz : mI M3 (u + 11) 1 < 900 := by have := x3.le f2 (by omega); omega
    refine ⟨k1, S3.1, (s_MU_common k1 S3 x3 k3 (Z3.wh 15 (by decide)) (by omega) zz).mono (fun M4 h4 => ?_)⟩
    obtain ⟨m1, m2, m3, m4, m5, m6⟩ := h4
    rw [hxx, hyy] at m6
    have F4 := F3.1.mo m2 (fun x q => by omega)
    have Z4 : Sz M4 u := ⟨S3.fi m2, Z3.2.1.fi m2, Z3.2.2.1.fi m2, fun c hc => by
      by_cases q1 : c = 11
      · rw [q1]; exact m3.1
      · by_cases q2 : c = 13
        · rw [q2]; exact m4.1
        · by_cases q3 : c = 15
          · rw [q3]; exact m5
          · refine (Z3.wh c hc).out m2 ?_
            have h1 : ∀ e ∈ szL, e = 11 ∨ e = 13 ∨ e = 15 ∨ e < 11 ∨ 16 < e := by decide
            have h2 := h1 c hc
            omega⟩
    have S4 := Z4.1
    have g0 : 0 < Nat.gcd (xn M1 (u + 2)) (xn M1 (u + 4)) := Nat.gcd_pos_of_pos_left _ (by omega)
    have FI4 : FI (sS u) M1 M4 := ((g2.mono (fun x q => by omega)).trans (k2.mono (fun x q => by omega))).trans (m2.mono (fun x q => by omega))
    have et4 : wv M4 (u + 2) = wv M1 (u + 2) := F4.2.2.2.1.trans (F3.2.2.2.1.trans F2.2.2.2.1)
    have eb4 : wv M4 (u + 4) = wv M1 (u + 4) := F4.2.2.2.2.1.trans (F3.2.2.2.2.1.trans F2.2.2.2.2.1)
    have ei4 : mI M4 (u + 1) = mI M1 (u + 1) := F4.2.2.2.2.2.trans (F3.2.2.2.2.2.trans F2.2.2.2.2.2)
    refine ⟨m1, ?_⟩
    rw [S4.2.2.2.1]
    refine ⟨S4.1, m3.1.1, (s_MW_isOne m1 m3).mono (fun y M5 h5 => ?_)⟩
    obtain ⟨e5, hy⟩ := h5
    subst e5
    refine ⟨⟨by split at hy <;> omega, by split at hy <;> omega⟩, m1, fun q => ⟨S4.1, ?_⟩, fun q => ⟨m1, FI4, Z4, F4.1, ⟨?_, ?_⟩, ?_⟩⟩
    · rw [S4.2.2.2.2.2.1, S4.2.2.2.1]
      have hgx := Nat.gcd_le_left (xn M1 (u + 4)) (show 0 < xn M1 (u + 2) by omega)
      refine ⟨(Z4.wh 15 (by decide)).1, (s_MW_copy m1 (Z4.wh 15 (by decide)) m3 (by omega) m3.1.2.2.2.2.2.2).mono (fun M6 h6 => ?_)⟩
      obtain ⟨n1, n2, n3, n4⟩ := h6
      have Z6 := Z4.step (c := 15) (by decide) rfl n2 n3.1
      have S6 := Z6.1
      have F6 := F4.1.mo n2 (fun x q => by omega)
      have FI6 : FI (sS u) M1 M6 := FI4.trans (n2.mono (fun x q => by omega))
      have et6 : wv M6 (u + 2) = wv M1 (u + 2) := F6.2.2.2.1.trans et4
      have eb6 : wv M6 (u + 4) = wv M1 (u + 4) := F6.2.2.2.2.1.trans eb4
      have ei6 : mI M6 (u + 1) = mI M1 (u + 1) := F6.2.2.2.2.2.trans ei4
      refine ⟨n1, S6.1, ?_⟩
      rw [S6.2.1, S6.2.2.2.2.2.1, Z6.tp]
      have z1 : mI M6 (u + 2) 1 < 900 := by have := F6.2.1.le f2 (by show wv M6 (u + 2) ≤ _; omega); omega
      have z2 : mI M6 (u + 15) 1 < 900 := by have := n3.le f2 (by omega); omega
      refine ⟨Z6.2.1.1, (s_MU_divide0 n1 S6 (Z6.wh 17 (by decide)) (Z6.wh 19 (by decide)) F6.2.1 n3 (by omega) (by omega) (by omega) z1 z2).mono (fun M7 h7 => ?_)⟩
      obtain ⟨o1, o2, o3, o4, o5, o6⟩ := h7
      have Z7 : Sz M7 u := ⟨S6.fi o2, Z6.2.1.fi o2, Z6.2.2.1.fi o2, fun c hc => by
        by_cases q1 : c = 17
        · rw [q1]; exact o3.1
        · by_cases q2 : c = 19
          · rw [q2]; exact o4.1
          · refine (Z6.wh c hc).out o2 ?_
            have h1 : ∀ e ∈ szL, e = 17 ∨ e = 19 ∨ e < 17 := by decide
            have h2 := h1 c hc
            omega⟩
      have S7 := Z7.1
      have F7 := F6.1.mo o2 (fun x q => by omega)
      obtain ⟨z7, vz7⟩ := n3.out o2 (by omega) (by omega)
      refine ⟨o1, S7.1, ?_⟩
      rw [S7.2.1, S7.2.2.2.2.2.2.1, Z7.tp]
      refine ⟨Z7.2.1.1, F7.2.1.1.1, (s_MW_copy o1 F7.2.1.1 o3 (by omega) o3.1.2.2.2.2.2.2).mono (fun M8 h8 => ?_)⟩
      obtain ⟨p1, p2, p3, p4⟩ := h8
      have p2' : FI (fun x => x = u + 2 ∨ x = u + 2 + 1) M7 M8 := p2
      have Z8 := Z7.step (c := 2) (by decide) rfl p2' p3.1
      have S8 := Z8.1
      obtain ⟨b8, vb8⟩ := F7.2.2.1.out p2 (by omega) (by omega)
      obtain ⟨z8, vz8⟩ := z7.out p2 (by omega) (by omega)
      have eb7 : wv M7 (u + 4) = wv M1 (u + 4) := F7.2.2.2.2.1.trans eb6
      have ei7 : mI M7 (u + 1) = mI M1 (u + 1) := F7.2.2.2.2.2.trans ei6
      have ei8 : mI M8 (u + 1) = mI M1 (u + 1) := (p2.2.2.2.2.2.2 (u + 1) (by omega)).trans ei7
      have eb8 : wv M8 (u + 4) = wv M1 (u + 4) := Eq.trans vb8 eb7
      refine ⟨p1, S8.1, ?_⟩
      rw [S8.2.1, S8.2.2.2.2.2.1, Z8.bt]
      have z3 : mI M8 (u + 4) 1 < 900 := by have := W3.le (M := M8) (a := u + 4) b8 f3 (by show wv M8 (u + 4) ≤ wv M1 (u + 4); omega); omega
      have z4 : mI M8 (u + 15) 1 < 900 := by have := z8.le f2 (by omega); omega
      refine ⟨Z8.2.1.1, (s_MU_divide0 p1 S8 (Z8.wh 17 (by decide)) (Z8.wh 19 (by decide)) b8 z8 (by omega) (by omega) (by omega) z3 z4).mono (fun M9 h9 => ?_)⟩
      obtain ⟨q1, q2, q3, q4, q5, q6⟩ := h9
      have Z9 : Sz M9 u := ⟨S8.fi q2, Z8.2.1.fi q2, Z8.2.2.1.fi q2, fun c hc => by
        by_cases w1 : c = 17
        · rw [w1]; exact q3.1
        · by_cases w2 : c = 19
          · rw [w2]; exact q4.1
          · refine (Z8.wh c hc).out q2 ?_
            have h1 : ∀ e ∈ szL, e = 17 ∨ e = 19 ∨ e < 17 := by decide
            have h2 := h1 c hc
            omega⟩
      have S9 := Z9.1
      obtain ⟨t9, vt9⟩ := p3.out q2 (by omega) (by omega)
      obtain ⟨b9, vb9⟩ := b8.out q2 (by omega) (by omega)
      have ei9 : mI M9 (u + 1) = mI M1 (u + 1) := (q2.2.2.2.2.2.2 (u + 1) (by omega)).trans ei8
      refine ⟨q1, S9.1, ?_⟩
      rw [S9.2.1, S9.2.2.2.2.2.2.1, Z9.bt]
      refine ⟨Z9.2.1.1, b9.1.1, (s_MW_copy q1 b9.1 q3 (by omega) q3.1.2.2.2.2.2.2).mono (fun M10 h10 => ?_)⟩
      obtain ⟨r1, r2, r3, r4⟩ := h10
      have r2' : FI (fun x => x = u + 4 ∨ x = u + 4 + 1) M9 M10 := r2
      have Z10 := Z9.step (c := 4) (by decide) rfl r2' r3.1
      obtain ⟨t10, vt10⟩ := t9.out r2 (by omega) (by omega)
      have ei10 : mI M10 (u + 1) = mI M1 (u + 1) := (r2.2.2.2.2.2.2 (u + 1) (by omega)).trans ei9
      have et10 := xn_eq t10
      have eb10 := xn_eq r3
      have tt : wv M10 (u + 2) = wv M1 (u + 2) / (Nat.gcd (xn M1 (u + 2)) (xn M1 (u + 4)) : Nat) := by
        rw [vt10, vt9, p4, o5, n4, m6]
        show wv M6 (u + 2) / _ = _
        rw [et6]
      have bb : wv M10 (u + 4) = wv M1 (u + 4) / (Nat.gcd (xn M1 (u + 2)) (xn M1 (u + 4)) : Nat) := by
        rw [r4, q5, vz8, vz7, n4, m6]
        show wv M8 (u + 4) / _ = _
        rw [eb8]
      have hdt : (Nat.gcd (xn M1 (u + 2)) (xn M1 (u + 4)) : Int) ∣ wv M1 (u + 2) := by
        rw [← ht0]
        exact Int.natCast_dvd_natCast.2 (Nat.gcd_dvd_left _ _)
      have hdb : (Nat.gcd (xn M1 (u + 2)) (xn M1 (u + 4)) : Int) ∣ wv M1 (u + 4) := by
        rw [show wv M1 (u + 4) = (xn M1 (u + 4) : Int) from hb0.symm]
        exact Int.natCast_dvd_natCast.2 (Nat.gcd_dvd_right _ _)
      have ct := Int.mul_ediv_cancel' hdt
      have cb := Int.mul_ediv_cancel' hdb
      rw [← tt] at ct
      rw [← bb] at cb
      have FI10 : FI (sS u) M1 M10 := ((((FI6.trans (o2.mono (fun x q => by omega))).trans (p2.mono (fun x q => by omega))).trans (q2.mono (fun x q => by omega))).trans (r2.mono (fun x q => by omega)))
      have hbp : 0 < wv M10 (u + 4) := by
        have h1 := r3.nonneg
        have h2 : wv M10 (u + 4) ≠ 0 := fun q => by rw [q, Int.mul_zero] at cb; have : wv M1 (u + 4) = 0 := cb.symm; have h5' : 0 < wv M1 (u + 4) := f5; omega
        omega
      refine ⟨r1, r1, FI10, Z10, ⟨Z10.2.1, t10, r3, by rw [ei10]; exact f4, hbp⟩, ⟨?_, ?_⟩, ?_⟩
      · have h1 : xn M10 (u + 2) = xn M1 (u + 2) / Nat.gcd (xn M1 (u + 2)) (xn M1 (u + 4)) := by
          have : ((xn M10 (u + 2) : Nat) : Int) = ((xn M1 (u + 2) / Nat.gcd (xn M1 (u + 2)) (xn M1 (u + 4)) : Nat) : Int) := by
            rw [et10, tt, Int.natCast_ediv, ht0]
          omega
        have h2 : xn M10 (u + 4) = xn M1 (u + 4) / Nat.gcd (xn M1 (u + 2)) (xn M1 (u + 4)) := by
          have : ((xn M10 (u + 4) : Nat) : Int) = ((xn M1 (u + 4) / Nat.gcd (xn M1 (u + 2)) (xn M1 (u + 4)) : Nat) : Int) := by
            rw [eb10, bb, Int.natCast_ediv, show wv M1 (u + 4) = (xn M1 (u + 4) : Int) from hb0.symm]
          omega
        rw [h1, h2]
        rw [Nat.gcd_div (Nat.gcd_dvd_left _ _) (Nat.gcd_dvd_right _ _)]
        exact Nat.div_self g0
      · intro w
        rw [w, Int.mul_zero] at ct
        exact absurd ct.symm hnz
      · unfold sn sd
        rw [ei10]
        show (if mI M1 (u + 1) 2 = 1 then -wv M10 (u + 2) else wv M10 (u + 2)) * wv M1 (u + 4) = (if mI M1 (u + 1) 2 = 1 then -wv M1 (u + 2) else wv M1 (u + 2)) * wv M10 (u + 4)
        rw [← ct, ← cb]
        split
        · rw [Int.neg_mul, Int.neg_mul, Int.mul_left_comm, Int.mul_assoc]
        · rw [Int.mul_left_comm, Int.mul_assoc]
    · have hone : wv M5 (u + 11) = 1 := by
        by_cases w : wv M5 (u + 11) = 1
        · exact w
        · rw [if_neg w] at hy; omega
      have h1 : xn M5 (u + 1 + 1) = xn M1 (u + 2) := by unfold xn; rw [show wv M5 (u + 1 + 1) = wv M1 (u + 2) from et4]
      have h2 : xn M5 (u + 1 + 3) = xn M1 (u + 4) := by unfold xn; rw [show wv M5 (u + 1 + 3) = wv M1 (u + 4) from eb4]
      rw [h1, h2]
      omega
    · intro w
      exact absurd (et4.symm.trans w) hnz
    · unfold sn sd
      rw [ei4, show wv M5 (u + 1 + 1) = wv M1 (u + 1 + 1) from et4, show wv M5 (u + 1 + 3) = wv M1 (u + 1 + 3) from eb4]
  · have hz0 : wv M1 (u + 2) = 0 := by
      refine hz.1 (Classical.byContradiction (fun w => ?_))
      have w' : ¬ mI M1 (u + 2) 1 = 0 := w
      rw [if_neg w'] at hx
      omega
    have f2' : FI (fun x => x = u + 1) M1 M2 := by rw [e2]; exact FI.ui rfl
    have Z2 : Sz M2 u := by rw [e2]; exact hZ.flag
    have S2 := Z2.1
    have o2 : mOk M2 := by rw [e2]; exact mOk_UI hO ⟨by omega, by omega⟩
    obtain ⟨t2, vt2⟩ := f2.out f2' (by omega) (by omega)
    rw [S2.2.1, Z2.bt]
    refine ⟨Z2.2.1.1, (Z2.wh 4 (by decide)).1, (s_MW_set (by omega) (by omega) ⟨by omega, by omega⟩ o2 (Z2.wh 4 (by decide)) (by omega)).mono (fun M3 h3 => ?_)⟩
    obtain ⟨k1, k2, k3, k4⟩ := h3
    have Z3 := Z2.step (c := 4) (by decide) rfl k2 k3.1
    obtain ⟨t3, vt3⟩ := t2.out k2 (by omega) (by omega)
    have ei : mI M3 (u + 1) 2 = 0 := by
      rw [k2.2.2.2.2.2.2 (u + 1) (by omega), e2, mI_UI, if_pos ⟨rfl, rfl⟩]
    have t30 : wv M3 (u + 1 + 1) = 0 := vt3.trans (vt2.trans hz0)
    have b31 : wv M3 (u + 1 + 3) = 1 := k4
    refine ⟨k1, k1, (f2'.mono (fun x q => by omega)).trans (k2.mono (fun x q => by omega)), Z3, ⟨Z3.2.1, t3, k3, Or.inl ei, by omega⟩, ⟨?_, fun _ => ei⟩, ?_⟩
    · unfold xn
      rw [t30, b31]
      rfl
    · unfold sn sd
      rw [t30, show wv M1 (u + 1 + 1) = 0 from hz0]
      simp
end SU
end
section
/-! The reference's sums: products, quotients, order. -/
theorem sn_mul {M : mM} {f : Nat} {c : Int} : sn M f * c = if mI M f 2 = 1 then - (wv M (f + 1) * c) else wv M (f + 1) * c := by
  unfold sn
  split
  · rw [Int.neg_mul]
  · rfl
theorem mul_lt_B {x y A B : Int} (hx : x < A) (hy : y < B) (h0 : 0 ≤ x) (h1 : 0 ≤ y) : x * y < A * B :=
  Int.lt_of_le_of_lt (Int.mul_le_mul_of_nonneg_left (Int.le_of_lt hy) h0) (Int.mul_lt_mul_of_pos_right hx (Int.lt_of_le_of_lt h1 hy))
abbrev suO (u a : Nat) : Prop := a + 4 < u + 11 ∨ u + 20 < a
abbrev suQ (M : mM) (u : Nat) (N D : Int) : mM → Prop := fun M' => mOk M' ∧ FI (sS u) M M' ∧ Sz M' u ∧ Fq M' (u + 1) 900 ∧ Fc M' (u + 1) ∧ sn M' (u + 1) * D = N * sd M' (u + 1)
section SU
variable {G : mG} {d u a b ra rb : Nat} {M : mM}
theorem sums_tail {Q : mM → Prop} (hO : mOk M) (hZ : Sz M u) (hx : W3 M (u + 11) 900) (hy : W3 M (u + 13) 900) (sx : mI M (u + 11) 1 < 900) (sy : mI M (u + 13) 1 < 900) (hy0 : 0 < wv M (u + 13)) (hf : mI M (u + 1) 2 = 0 ∨ mI M (u + 1) 2 = 1)
    (hQ : ∀ M', suQ M u (if mI M (u + 1) 2 = 1 then - wv M (u + 11) else wv M (u + 11)) (wv M (u + 13)) M' → Q M') :
    mK M (mR M u 0) = 19 ∧ mK M (mR M (mR M u 0) 0) = 20 ∧ Cv G y_MW_copy (d + 3) [vr (mR M (mR M u 0) 0), vr (mR M u 2)] M (fun M29 => mOk M29 ∧ (mK M29 u = 18 ∧ mK M29 (mR M29 u 0) = 19 ∧ mK M29 (mR M29 (mR M29 u 0) 1) = 20 ∧ Cv G y_MW_copy (d + 3) [vr (mR M29 (mR M29 u 0) 1), vr (mR M29 u 3)] M29 (fun M35 => mOk M35 ∧ (mK M35 u = 18 ∧ Cv G y_MU_settle (d + 3) [vr u] M35 (fun M39 => mOk M39 ∧ (Q M39)))))) := by
  rw [hZ.1.2.1, hZ.tp, hZ.1.2.2.2.1]
  refine ⟨hZ.2.1.1, (hZ.wh 2 (by decide)).1, (s_MW_copy hO (hZ.wh 2 (by decide)) hx (by omega) hx.1.2.2.2.2.2.2).mono (fun M1 h1 => ?_)⟩
  obtain ⟨g1, g2, g3, g4⟩ := h1
  have Z1 := hZ.step (c := 2) (by decide) rfl g2 g3.1
  obtain ⟨y1, vy1⟩ := hy.out g2 (by omega) (by omega)
  refine ⟨g1, Z1.1.1, ?_⟩
  rw [Z1.1.2.1, Z1.bt, Z1.1.2.2.2.2.1]
  refine ⟨Z1.2.1.1, (Z1.wh 4 (by decide)).1, (s_MW_copy g1 (Z1.wh 4 (by decide)) y1 (by omega) y1.1.2.2.2.2.2.2).mono (fun M2 h2 => ?_)⟩
  obtain ⟨k1, k2, k3, k4⟩ := h2
  have Z2 := Z1.step (c := 4) (by decide) rfl k2 k3.1
  obtain ⟨t2, vt2⟩ := g3.out k2 (by omega) (by omega)
  have e2 : mI M2 (u + 1) = mI M (u + 1) := (k2.2.2.2.2.2.2 (u + 1) (by omega)).trans (g2.2.2.2.2.2.2 (u + 1) (by omega))
  have z1 : mI M2 (u + 2) 1 < 900 := by have := t2.le hx (by omega); omega
  have z2 : mI M2 (u + 4) 1 < 900 := by have := k3.le hy (by omega); omega
  have F2 : Fq M2 (u + 1) 900 := ⟨Z2.2.1, t2, k3, by rw [e2]; exact hf, by show 0 < wv M2 (u + 4); omega⟩
  refine ⟨k1, Z2.1.1, (s_MU_settle k1 Z2 F2 z1 z2).mono (fun M3 h3 => ?_)⟩
  obtain ⟨m1, m2, m3, m4, m5, m6⟩ := h3
  refine ⟨m1, hQ M3 ⟨m1, ((g2.mono (fun x q => by omega)).trans (k2.mono (fun x q => by omega))).trans m2, m3, m4, m5, ?_⟩⟩
  unfold sn sd at m6
  rw [e2, show wv M2 (u + 1 + 1) = wv M (u + 11) from vt2.trans g4, show wv M2 (u + 1 + 3) = wv M (u + 13) from k4.trans vy1] at m6
  exact m6
theorem s_MU_multiply (hO : mOk M) (hZ : Sz M u) (hA : Fq M a ra) (hB : Fq M b rb) (oa : suO u a) (ob : suO u b)
    (z1 : mI M (a + 1) 1 + mI M (b + 1) 1 < 900) (z2 : mI M (a + 3) 1 + mI M (b + 3) 1 < 900) :
    Cv G y_MU_multiply (d + 4) [vr u, vr a, vr b] M (suQ M u (sn M a * sn M b) (sd M a * sd M b)) := by
  refine k_MU_multiply hO ?_
  rw [hZ.1.2.2.2.1, hA.1.2.1, hB.1.2.1]
  refine ⟨hZ.1.1, hA.1.1, hB.1.1, (hZ.wh 11 (by decide)).1, (s_MW_product hO (hZ.wh 11 (by decide)) hA.2.1 hB.2.1 (by omega) (by omega) (by omega)).mono (fun M1 h1 => ?_)⟩
  obtain ⟨g1, g2, g3, g4⟩ := h1
  have Z1 := hZ.step (c := 11) (by decide) rfl g2 g3.1
  have A1 := hA.out g2 (fun x q => by omega)
  have B1 := hB.out g2 (fun x q => by omega)
  have za : mI M1 (a + 3) 1 = mI M (a + 3) 1 := by rw [g2.2.2.2.2.2.2 (a + 3) (by omega)]
  have zb : mI M1 (b + 3) 1 = mI M (b + 3) 1 := by rw [g2.2.2.2.2.2.2 (b + 3) (by omega)]
  refine ⟨g1, Z1.1.1, A1.1.1.1, B1.1.1.1, ?_⟩
  rw [Z1.1.2.2.2.2.1, A1.1.1.2.2, B1.1.1.2.2]
  refine ⟨(Z1.wh 13 (by decide)).1, (s_MW_product g1 (Z1.wh 13 (by decide)) A1.1.2.2.1 B1.1.2.2.1 (by omega) (by omega) (by omega)).mono (fun M2 h2 => ?_)⟩
  obtain ⟨k1, k2, k3, k4⟩ := h2
  have Z2 := Z1.step (c := 13) (by decide) rfl k2 k3.1
  have A2 := A1.1.out k2 (fun x q => by omega)
  have B2 := B1.1.out k2 (fun x q => by omega)
  obtain ⟨x2, vx2⟩ := g3.out k2 (by omega) (by omega)
  have sx : mI M2 (u + 11) 1 < 900 := by
    have h1 : wv M2 (u + 11) < 16777216 ^ ((mI M (a + 1) 1).toNat + (mI M (b + 1) 1).toNat) := by
      rw [vx2, g4, Int.pow_add]
      exact mul_lt_B hA.2.1.lt hB.2.1.lt hA.2.1.nonneg hB.2.1.nonneg
    have h2 := x2.size h1
    have h3 := hA.2.1.1.2.2.2.2.2.1
    have h4 := hB.2.1.1.2.2.2.2.2.1
    omega
  have sy : mI M2 (u + 13) 1 < 900 := by
    have h1 : wv M2 (u + 13) < 16777216 ^ ((mI M1 (a + 3) 1).toNat + (mI M1 (b + 3) 1).toNat) := by
      rw [k4, Int.pow_add]
      exact mul_lt_B A1.1.2.2.1.lt B1.1.2.2.1.lt A1.1.2.2.1.nonneg B1.1.2.2.1.nonneg
    have h2 := k3.size h1
    have h3 := A1.1.2.2.1.1.2.2.2.2.2.1
    have h4 := B1.1.2.2.1.1.2.2.2.2.2.1
    omega
  refine ⟨k1, Z2.1.1, A2.1.1.1, B2.1.1.1, fun v hv => ⟨by rw [Z2.1.2.1]; exact Z2.2.1.1, fun M3 e3 => ?_⟩⟩
  rw [Z2.1.2.1] at e3
  have hv01 : v = 0 ∨ v = 1 := by split at hv <;> omega
  have Z3 : Sz M3 u := by rw [e3]; exact Z2.flag
  have f3 : FI (fun x => x = u + 1) M2 M3 := by rw [e3]; exact FI.ui rfl
  have o3 : mOk M3 := by rw [e3]; exact mOk_UI k1 ⟨by omega, by omega⟩
  have v3 : mI M3 (u + 1) 2 = v := by rw [e3, mI_UI, if_pos ⟨rfl, rfl⟩]
  obtain ⟨x3, vx3⟩ := x2.out f3 (by omega) (by omega)
  obtain ⟨y3, vy3⟩ := k3.out f3 (by omega) (by omega)
  have zx3 : mI M3 (u + 11) 1 < 900 := by have := x3.le x2 (by omega); omega
  have zy3 : mI M3 (u + 13) 1 < 900 := by have := y3.le k3 (by omega); omega
  have hd1 : wv M3 (u + 13) = sd M a * sd M b := by
    rw [vy3, k4]
    show sd M1 a * sd M1 b = _
    rw [A1.2.2.1, B1.2.2.1]
  refine sums_tail o3 Z3 x3 y3 zx3 zy3 (by rw [hd1]; exact Int.mul_pos hA.2.2.2.2 hB.2.2.2.2) (by omega) (fun M' h' => ?_)
  obtain ⟨n1, n2, n3, n4, n5, n6⟩ := h'
  refine ⟨n1, (((g2.mono (fun x q => by omega)).trans (k2.mono (fun x q => by omega))).trans (f3.mono (fun x q => by omega))).trans n2, n3, n4, n5, ?_⟩
  rw [hd1] at n6
  rw [n6]
  congr 1
  rw [v3, vx3, vx2, g4, sn_mul]
  rw [A2.2.2.2.2.2, B2.2.2.2.2.2, A1.2.2.2.2.2, B1.2.2.2.2.2] at hv
  have ha := hA.2.2.2.1
  have hb := hB.2.2.2.1
  unfold sn
  rcases ha with p | p <;> rcases hb with q | q <;> simp [p, q] at hv ⊢ <;> simp [hv, Int.mul_neg, Int.neg_mul]
theorem s_MU_divide1 (hO : mOk M) (hZ : Sz M u) (hA : Fq M a ra) (hB : Fq M b rb) (oa : suO u a) (ob : suO u b) (hb0 : sn M b ≠ 0)
    (z1 : mI M (a + 1) 1 + mI M (b + 3) 1 < 900) (z2 : mI M (a + 3) 1 + mI M (b + 1) 1 < 900) :
    Cv G y_MU_divide1 (d + 4) [vr u, vr a, vr b] M (suQ M u (sn M a * sd M b) (sd M a * sn M b)) := by
  have hbt : 0 < wv M (b + 1) := by
    have h1 := hB.2.1.nonneg
    have h2 : wv M (b + 1) ≠ 0 := fun q => hb0 (by unfold sn; rw [q]; simp)
    omega
  refine k_MU_divide1 hO ?_
  rw [hZ.1.2.2.2.1, hA.1.2.1, hB.1.2.2]
  refine ⟨hZ.1.1, hA.1.1, hB.1.1, (hZ.wh 11 (by decide)).1, (s_MW_product hO (hZ.wh 11 (by decide)) hA.2.1 hB.2.2.1 (by omega) (by omega) (by omega)).mono (fun M1 h1 => ?_)⟩
  obtain ⟨g1, g2, g3, g4⟩ := h1
  have Z1 := hZ.step (c := 11) (by decide) rfl g2 g3.1
  have A1 := hA.out g2 (fun x q => by omega)
  have B1 := hB.out g2 (fun x q => by omega)
  have za : mI M1 (a + 3) 1 = mI M (a + 3) 1 := by rw [g2.2.2.2.2.2.2 (a + 3) (by omega)]
  have zb : mI M1 (b + 1) 1 = mI M (b + 1) 1 := by rw [g2.2.2.2.2.2.2 (b + 1) (by omega)]
  refine ⟨g1, Z1.1.1, A1.1.1.1, B1.1.1.1, ?_⟩
  rw [Z1.1.2.2.2.2.1, A1.1.1.2.2, B1.1.1.2.1]
  refine ⟨(Z1.wh 13 (by decide)).1, (s_MW_product g1 (Z1.wh 13 (by decide)) A1.1.2.2.1 B1.1.2.1 (by omega) (by omega) (by omega)).mono (fun M2 h2 => ?_)⟩
  obtain ⟨k1, k2, k3, k4⟩ := h2
  have Z2 := Z1.step (c := 13) (by decide) rfl k2 k3.1
  have A2 := A1.1.out k2 (fun x q => by omega)
  have B2 := B1.1.out k2 (fun x q => by omega)
  obtain ⟨x2, vx2⟩ := g3.out k2 (by omega) (by omega)
  have sx : mI M2 (u + 11) 1 < 900 := by
    have h1 : wv M2 (u + 11) < 16777216 ^ ((mI M (a + 1) 1).toNat + (mI M (b + 3) 1).toNat) := by
      rw [vx2, g4, Int.pow_add]
      exact mul_lt_B hA.2.1.lt hB.2.2.1.lt hA.2.1.nonneg hB.2.2.1.nonneg
    have h2 := x2.size h1
    have h3 := hA.2.1.1.2.2.2.2.2.1
    have h4 := hB.2.2.1.1.2.2.2.2.2.1
    omega
  have sy : mI M2 (u + 13) 1 < 900 := by
    have h1 : wv M2 (u + 13) < 16777216 ^ ((mI M1 (a + 3) 1).toNat + (mI M1 (b + 1) 1).toNat) := by
      rw [k4, Int.pow_add]
      exact mul_lt_B A1.1.2.2.1.lt B1.1.2.1.lt A1.1.2.2.1.nonneg B1.1.2.1.nonneg
    have h2 := k3.size h1
    have h3 := A1.1.2.2.1.1.2.2.2.2.2.1
    have h4 := B1.1.2.1.1.2.2.2.2.2.1
    omega
  refine ⟨k1, Z2.1.1, A2.1.1.1, B2.1.1.1, fun v hv => ⟨by rw [Z2.1.2.1]; exact Z2.2.1.1, fun M3 e3 => ?_⟩⟩
  rw [Z2.1.2.1] at e3
  have hv01 : v = 0 ∨ v = 1 := by split at hv <;> omega
  have Z3 : Sz M3 u := by rw [e3]; exact Z2.flag
  have f3 : FI (fun x => x = u + 1) M2 M3 := by rw [e3]; exact FI.ui rfl
  have o3 : mOk M3 := by rw [e3]; exact mOk_UI k1 ⟨by omega, by omega⟩
  have v3 : mI M3 (u + 1) 2 = v := by rw [e3, mI_UI, if_pos ⟨rfl, rfl⟩]
  obtain ⟨x3, vx3⟩ := x2.out f3 (by omega) (by omega)
  obtain ⟨y3, vy3⟩ := k3.out f3 (by omega) (by omega)
  have zx3 : mI M3 (u + 11) 1 < 900 := by have := x3.le x2 (by omega); omega
  have zy3 : mI M3 (u + 13) 1 < 900 := by have := y3.le k3 (by omega); omega
  have hd1 : wv M3 (u + 13) = wv M (a + 3) * wv M (b + 1) := by
    rw [vy3, k4, A1.2.2.2.2.1, B1.2.2.2.1]
  refine sums_tail o3 Z3 x3 y3 zx3 zy3 (by rw [hd1]; exact Int.mul_pos hA.2.2.2.2 hbt) (by omega) (fun M' h' => ?_)
  obtain ⟨n1, n2, n3, n4, n5, n6⟩ := h'
  refine ⟨n1, (((g2.mono (fun x q => by omega)).trans (k2.mono (fun x q => by omega))).trans (f3.mono (fun x q => by omega))).trans n2, n3, n4, n5, ?_⟩
  rw [hd1, v3, vx3, vx2, g4] at n6
  rw [A2.2.2.2.2.2, B2.2.2.2.2.2, A1.2.2.2.2.2, B1.2.2.2.2.2] at hv
  have ha := hA.2.2.2.1
  have hb := hB.2.2.2.1
  unfold sd at n6 ⊢
  rw [sn_mul (f := a)]
  have e6 : wv M (a + 3) * sn M b = if mI M b 2 = 1 then - (wv M (a + 3) * wv M (b + 1)) else wv M (a + 3) * wv M (b + 1) := by
    unfold sn
    split
    · rw [Int.mul_neg]
    · rfl
  rw [e6]
  rcases ha with p | p <;> rcases hb with q | q <;> simp [p, q] at hv ⊢ <;> simp [hv] at n6
  all_goals (try simp only [Int.mul_neg, Int.neg_mul] at n6 ⊢)
  all_goals omega
theorem s_MU_compare (hO : mOk M) (hZ : Sz M u) (hA : Fq M a ra) (hB : Fq M b rb) (oa : suO u a) (ob : suO u b)
    (z1 : mI M (a + 1) 1 + mI M (b + 3) 1 ≤ 900) (z2 : mI M (b + 1) 1 + mI M (a + 3) 1 ≤ 900) :
    Ci G y_MU_compare (d + 2) [vr u, vr a, vr b] M (fun x M' => mOk M' ∧ FI (fun x => u + 11 ≤ x ∧ x ≤ u + 14) M M' ∧ Sz M' u ∧ x = if wv M (a + 1) * wv M (b + 3) < wv M (b + 1) * wv M (a + 3) then -1 else if wv M (a + 1) * wv M (b + 3) = wv M (b + 1) * wv M (a + 3) then 0 else 1) := by
  refine k_MU_compare hO ?_
  rw [hZ.1.2.2.2.1, hA.1.2.1, hB.1.2.2]
  refine ⟨hZ.1.1, hA.1.1, hB.1.1, (hZ.wh 11 (by decide)).1, (s_MW_product hO (hZ.wh 11 (by decide)) hA.2.1 hB.2.2.1 (by omega) (by omega) (by omega)).mono (fun M1 h1 => ?_)⟩
  obtain ⟨g1, g2, g3, g4⟩ := h1
  have Z1 := hZ.step (c := 11) (by decide) rfl g2 g3.1
  have A1 := hA.out g2 (fun x q => by omega)
  have B1 := hB.out g2 (fun x q => by omega)
  have za : mI M1 (a + 3) 1 = mI M (a + 3) 1 := by rw [g2.2.2.2.2.2.2 (a + 3) (by omega)]
  have zb : mI M1 (b + 1) 1 = mI M (b + 1) 1 := by rw [g2.2.2.2.2.2.2 (b + 1) (by omega)]
  refine ⟨g1, Z1.1.1, B1.1.1.1, A1.1.1.1, ?_⟩
  rw [Z1.1.2.2.2.2.1, A1.1.1.2.2, B1.1.1.2.1]
  refine ⟨(Z1.wh 13 (by decide)).1, (s_MW_product g1 (Z1.wh 13 (by decide)) B1.1.2.1 A1.1.2.2.1 (by omega) (by omega) (by omega)).mono (fun M2 h2 => ?_)⟩
  obtain ⟨k1, k2, k3, k4⟩ := h2
  have Z2 := Z1.step (c := 13) (by decide) rfl k2 k3.1
  obtain ⟨x2, vx2⟩ := g3.out k2 (by omega) (by omega)
  refine ⟨k1, Z2.1.1, ?_⟩
  rw [Z2.1.2.2.2.1, Z2.1.2.2.2.2.1]
  refine ⟨x2.1.1, (s_MW_compare k1 x2 k3).mono (fun x M3 h3 => ?_)⟩
  obtain ⟨e3, hx⟩ := h3
  subst e3
  rw [vx2, g4, k4, B1.2.2.2.1, A1.2.2.2.2.1] at hx
  refine ⟨⟨by split at hx <;> (try split at hx) <;> omega, by split at hx <;> (try split at hx) <;> omega⟩, k1, k1, (g2.mono (fun x q => by omega)).trans (k2.mono (fun x q => by omega)), Z2, hx⟩
end SU
end
end
section
section
/-! The reference's sums: sums and differences. -/
section SU
variable {G : mG} {d u a b ra rb : Nat} {M : mM}
theorem sums_164 {Q : mM → Prop} (hO : mOk M) (hZ : Sz M u) (hx : W3 M (u + 11) 900) (hz : W3 M (u + 15) 900) (sx : mI M (u + 11) 1 < 900) (sz : mI M (u + 15) 1 < 900) (hz0 : 0 < wv M (u + 15)) (hf : mI M (u + 1) 2 = 0 ∨ mI M (u + 1) 2 = 1)
    (hQ : ∀ M', suQ M u (if mI M (u + 1) 2 = 1 then - wv M (u + 11) else wv M (u + 11)) (wv M (u + 15)) M' → Q M') :
    h_MU_add_164 G (d + 3) u M Q := by
  refine k_MU_add_164 hO ?_
  rw [hZ.1.2.1, hZ.bt, hZ.1.2.2.2.2.2.1]
  refine ⟨hZ.1.1, hZ.2.1.1, (hZ.wh 4 (by decide)).1, (s_MW_copy hO (hZ.wh 4 (by decide)) hz (by omega) hz.1.2.2.2.2.2.2).mono (fun M1 h1 => ?_)⟩
  obtain ⟨g1, g2, g3, g4⟩ := h1
  have Z1 := hZ.step (c := 4) (by decide) rfl g2 g3.1
  obtain ⟨x1, vx1⟩ := hx.out g2 (by omega) (by omega)
  refine ⟨g1, Z1.1.1, ?_⟩
  rw [Z1.1.2.1, Z1.tp, Z1.1.2.2.2.1]
  refine ⟨Z1.2.1.1, (Z1.wh 2 (by decide)).1, (s_MW_copy g1 (Z1.wh 2 (by decide)) x1 (by omega) x1.1.2.2.2.2.2.2).mono (fun M2 h2 => ?_)⟩
  obtain ⟨k1, k2, k3, k4⟩ := h2
  have Z2 := Z1.step (c := 2) (by decide) rfl k2 k3.1
  obtain ⟨b2, vb2⟩ := g3.out k2 (by omega) (by omega)
  have e2 : mI M2 (u + 1) = mI M (u + 1) := (k2.2.2.2.2.2.2 (u + 1) (by omega)).trans (g2.2.2.2.2.2.2 (u + 1) (by omega))
  have z1 : mI M2 (u + 2) 1 < 900 := by have := k3.le hx (by omega); omega
  have z2 : mI M2 (u + 4) 1 < 900 := by have := b2.le hz (by omega); omega
  have F2 : Fq M2 (u + 1) 900 := ⟨Z2.2.1, k3, b2, by rw [e2]; exact hf, by show 0 < wv M2 (u + 4); omega⟩
  refine ⟨k1, Z2.1.1, (s_MU_settle k1 Z2 F2 z1 z2).mono (fun M3 h3 => ?_)⟩
  obtain ⟨m1, m2, m3, m4, m5, m6⟩ := h3
  refine ⟨m1, hQ M3 ⟨m1, ((g2.mono (fun x q => by omega)).trans (k2.mono (fun x q => by omega))).trans m2, m3, m4, m5, ?_⟩⟩
  unfold sn sd at m6
  rw [e2, show wv M2 (u + 1 + 1) = wv M (u + 11) from k4.trans vx1, show wv M2 (u + 1 + 3) = wv M (u + 15) from vb2.trans g4] at m6
  exact m6
/-- the last steps of a sum: the sign is written, then 164 -/
theorem sums_sign {Q : mM → Prop} {v : Int} (hO : mOk M) (hZ : Sz M u) (hx : W3 M (u + 11) 900) (hz : W3 M (u + 15) 900) (sx : mI M (u + 11) 1 < 900) (sz : mI M (u + 15) 1 < 900) (hz0 : 0 < wv M (u + 15)) (hf : v = 0 ∨ v = 1)
    (hQ : ∀ M', suQ M u (if v = 1 then - wv M (u + 11) else wv M (u + 11)) (wv M (u + 15)) M' → Q M') :
    ∀ M1, M1 = mUI M (mR M u 0) 2 v → h_MU_add_164 G (d + 3) u M1 Q := by
  intro M3 e3
  rw [hZ.1.2.1] at e3
  have Z3 : Sz M3 u := by rw [e3]; exact hZ.flag
  have f3 : FI (fun x => x = u + 1) M M3 := by rw [e3]; exact FI.ui rfl
  have o3 : mOk M3 := by rw [e3]; exact mOk_UI hO ⟨by omega, by omega⟩
  have v3 : mI M3 (u + 1) 2 = v := by rw [e3, mI_UI, if_pos ⟨rfl, rfl⟩]
  obtain ⟨x3, vx3⟩ := hx.out f3 (by omega) (by omega)
  obtain ⟨y3, vy3⟩ := hz.out f3 (by omega) (by omega)
  have zx3 : mI M3 (u + 11) 1 < 900 := by have := x3.le hx (by omega); omega
  have zy3 : mI M3 (u + 15) 1 < 900 := by have := y3.le hz (by omega); omega
  refine sums_164 o3 Z3 x3 y3 zx3 zy3 (by omega) (by omega) (fun M' h' => hQ M' ?_)
  obtain ⟨n1, n2, n3, n4, n5, n6⟩ := h'
  rw [v3, vx3, vy3] at n6
  exact ⟨n1, (f3.mono (fun x q => by omega)).trans n2, n3, n4, n5, n6⟩
theorem s_MU_add {m : Int} (hm : m = 0 ∨ m = 1) (hO : mOk M) (hZ : Sz M u) (hA : Fq M a ra) (hB : Fq M b rb) (oa : suO u a) (ob : suO u b)
    (z1 : mI M (a + 1) 1 + mI M (b + 3) 1 < 899) (z2 : mI M (b + 1) 1 + mI M (a + 3) 1 < 899) (z3 : mI M (a + 3) 1 + mI M (b + 3) 1 < 900) :
    Cv G y_MU_add (d + 4) [vr u, vr a, vr b, vi m] M (suQ M u (sn M a * sd M b + (if m = 1 then - (sn M b * sd M a) else sn M b * sd M a)) (sd M a * sd M b)) := by
  refine k_MU_add hO ⟨by omega, by omega⟩ ⟨hB.1.1, fun w hw => ?_⟩
  rw [hZ.1.2.2.2.1, hA.1.2.1, hB.1.2.2]
  refine ⟨hZ.1.1, hA.1.1, (hZ.wh 11 (by decide)).1, (s_MW_product hO (hZ.wh 11 (by decide)) hA.2.1 hB.2.2.1 (by omega) (by omega) (by omega)).mono (fun M1 h1 => ?_)⟩
  obtain ⟨g1, g2, g3, g4⟩ := h1
  have Z1 := hZ.step (c := 11) (by decide) rfl g2 g3.1
  have A1 := hA.out g2 (fun x q => by omega)
  have B1 := hB.out g2 (fun x q => by omega)
  have za : mI M1 (a + 3) 1 = mI M (a + 3) 1 := by rw [g2.2.2.2.2.2.2 (a + 3) (by omega)]
  have zb : mI M1 (b + 1) 1 = mI M (b + 1) 1 := by rw [g2.2.2.2.2.2.2 (b + 1) (by omega)]
  have zb3 : mI M1 (b + 3) 1 = mI M (b + 3) 1 := by rw [g2.2.2.2.2.2.2 (b + 3) (by omega)]
  refine ⟨g1, Z1.1.1, B1.1.1.1, A1.1.1.1, ?_⟩
  rw [Z1.1.2.2.2.2.1, A1.1.1.2.2, B1.1.1.2.1]
  refine ⟨(Z1.wh 13 (by decide)).1, (s_MW_product g1 (Z1.wh 13 (by decide)) B1.1.2.1 A1.1.2.2.1 (by omega) (by omega) (by omega)).mono (fun M2 h2 => ?_)⟩
  obtain ⟨k1, k2, k3, k4⟩ := h2
  have Z2 := Z1.step (c := 13) (by decide) rfl k2 k3.1
  have A2 := A1.1.out k2 (fun x q => by omega)
  have B2 := B1.1.out k2 (fun x q => by omega)
  obtain ⟨x2, vx2⟩ := g3.out k2 (by omega) (by omega)
  have za2 : mI M2 (a + 3) 1 = mI M (a + 3) 1 := by rw [k2.2.2.2.2.2.2 (a + 3) (by omega)]; exact za
  have zb2 : mI M2 (b + 3) 1 = mI M (b + 3) 1 := by rw [k2.2.2.2.2.2.2 (b + 3) (by omega)]; exact zb3
  refine ⟨k1, Z2.1.1, A2.1.1.1, B2.1.1.1, ?_⟩
  rw [Z2.1.2.2.2.2.2.1, A2.1.1.2.2, B2.1.1.2.2]
  refine ⟨(Z2.wh 15 (by decide)).1, (s_MW_product k1 (Z2.wh 15 (by decide)) A2.1.2.2.1 B2.1.2.2.1 (by omega) (by omega) (by omega)).mono (fun M3 h3 => ?_)⟩
  obtain ⟨m1, m2, m3, m4⟩ := h3
  have Z3 := Z2.step (c := 15) (by decide) rfl m2 m3.1
  have A3 := A2.1.out m2 (fun x q => by omega)
  have B3 := B2.1.out m2 (fun x q => by omega)
  obtain ⟨x3, vx3⟩ := x2.out m2 (by omega) (by omega)
  obtain ⟨y3, vy3⟩ := k3.out m2 (by omega) (by omega)
  have ex : wv M3 (u + 11) = wv M (a + 1) * sd M b := vx3.trans (vx2.trans g4)
  have ey : wv M3 (u + 13) = wv M (b + 1) * sd M a := by rw [vy3, k4, B1.2.2.2.1, A1.2.2.2.2.1]; rfl
  have ez : wv M3 (u + 15) = sd M a * sd M b := by rw [m4, A2.2.2.2.2.1, B2.2.2.2.2.1, A1.2.2.2.2.1, B1.2.2.2.2.1]; rfl
  have ez0 : 0 < wv M3 (u + 15) := by rw [ez]; exact Int.mul_pos hA.2.2.2.2 hB.2.2.2.2
  have ea : mI M3 a = mI M a := A3.2.2.2.2.2.trans (A2.2.2.2.2.2.trans A1.2.2.2.2.2)
  have sx : mI M3 (u + 11) 1 ≤ 898 := by
    have h1 : wv M3 (u + 11) < 16777216 ^ ((mI M (a + 1) 1).toNat + (mI M (b + 3) 1).toNat) := by
      rw [ex, Int.pow_add]
      exact mul_lt_B hA.2.1.lt hB.2.2.1.lt hA.2.1.nonneg hB.2.2.1.nonneg
    have h2 := x3.size h1
    have h3 := hA.2.1.1.2.2.2.2.2.1
    have h4 := hB.2.2.1.1.2.2.2.2.2.1
    omega
  have sy : mI M3 (u + 13) 1 ≤ 898 := by
    have h1 : wv M3 (u + 13) < 16777216 ^ ((mI M (b + 1) 1).toNat + (mI M (a + 3) 1).toNat) := by
      rw [ey, Int.pow_add]
      exact mul_lt_B hB.2.1.lt hA.2.2.1.lt hB.2.1.nonneg hA.2.2.1.nonneg
    have h2 := y3.size h1
    have h3 := hB.2.1.1.2.2.2.2.2.1
    have h4 := hA.2.2.1.1.2.2.2.2.2.1
    omega
  have sz : mI M3 (u + 15) 1 < 900 := by
    have h1 : wv M3 (u + 15) < 16777216 ^ ((mI M (a + 3) 1).toNat + (mI M (b + 3) 1).toNat) := by
      rw [ez, Int.pow_add]
      exact mul_lt_B hA.2.2.1.lt hB.2.2.1.lt hA.2.2.1.nonneg hB.2.2.1.nonneg
    have h2 := m3.size h1
    have h3 := hA.2.2.1.1.2.2.2.2.2.1
    have h4 := hB.2.2.1.1.2.2.2.2.2.1
    omega
  have F3 : FI (fun x => u + 11 ≤ x ∧ x ≤ u + 16) M M3 := ((g2.mono (fun x q => by omega)).trans (k2.mono (fun x q => by omega))).trans (m2.mono (fun x q => by omega))
  have hw01 : w = 0 ∨ w = 1 := by split at hw <;> omega
  have ha := hA.2.2.2.1
  have hb := hB.2.2.2.1
  -- the value to be reached
  have hval : sn M a * sd M b + (if m = 1 then - (sn M b * sd M a) else sn M b * sd M a) = (if mI M a 2 = 1 then - wv M3 (u + 11) else wv M3 (u + 11)) + (if w = 1 then - wv M3 (u + 13) else wv M3 (u + 13)) := by
    rw [sn_mul, sn_mul, ← ex, ← ey]
    congr 1
    rcases hb with q | q <;> rcases hm with p | p <;> simp [p, q] at hw ⊢ <;> simp [hw]
  refine ⟨m1, A3.1.1.1, fun c => ⟨Z3.1.1, ?_⟩, fun c => ⟨Z3.1.1, ?_⟩⟩
  · rw [Z3.1.2.2.2.1, Z3.1.2.2.2.2.1]
    refine ⟨x3.1.1, (s_MW_add m1 x3 y3 (by omega) (by omega)).mono (fun M4 h4 => ?_)⟩
    obtain ⟨n1, n2, n3, n4⟩ := h4
    have Z4 := Z3.step (c := 11) (by decide) rfl n2 n3.1
    have A4 := A3.1.out n2 (fun x q => by omega)
    obtain ⟨z4, vz4⟩ := m3.out n2 (by omega) (by omega)
    have sz4 : mI M4 (u + 15) 1 < 900 := by have := z4.le m3 (by omega); omega
    have sx4 : mI M4 (u + 11) 1 < 900 := by
      have h1 : wv M4 (u + 11) < 16777216 ^ 899 := by
        have h2 := x3.lt
        have h3 := y3.lt
        have h4 := pow_mono (m := (mI M3 (u + 11) 1).toNat) (n := 898) (by omega)
        have h5 := pow_mono (m := (mI M3 (u + 13) 1).toNat) (n := 898) (by omega)
        have h6 : (16777216 : Int) ^ 899 = 16777216 ^ 898 * 16777216 := Int.pow_succ _ _
        have h7 := B_pos 898
        rw [n4]
        generalize (16777216 : Int) ^ 898 = P at *
        generalize (16777216 : Int) ^ 899 = P2 at *
        omega
      have := n3.size h1
      omega
    rw [A4.2.2.2.2.2, ea, Z4.1.2.1]
    rw [ea] at c
    refine ⟨n1, Z4.1.1, A4.1.1.1, Z4.2.1.1, ha, ?_⟩
    have hs := sums_sign (G := G) (d := d) (Q := suQ M u (sn M a * sd M b + (if m = 1 then - (sn M b * sd M a) else sn M b * sd M a)) (sd M a * sd M b)) n1 Z4 n3 z4 sx4 sz4 (by omega) ha (fun M' h' => ?_)
    · rw [Z4.1.2.1] at hs
      exact hs
    · obtain ⟨q1, q2, q3, q4, q5, q6⟩ := h'
      refine ⟨q1, ((F3.mono (fun x q => by omega)).trans (n2.mono (fun x q => by omega))).trans q2, q3, q4, q5, ?_⟩
      rw [hval, ← ez, ← vz4, q6, n4]
      congr 1
      rcases ha with p | p <;> simp [p] at c ⊢ <;> simp [← c] <;> omega
  · rw [Z3.1.2.2.2.1, Z3.1.2.2.2.2.1]
    rw [ea] at c
    refine ⟨x3.1.1, (s_MW_compare m1 x3 y3).mono (fun y M4 h4 => ?_)⟩
    obtain ⟨e4, hy⟩ := h4
    subst e4
    rw [Z3.1.2.2.2.1, Z3.1.2.2.2.2.1]
    refine ⟨⟨by split at hy <;> (try split at hy) <;> omega, by split at hy <;> (try split at hy) <;> omega⟩, m1, fun q => ⟨Z3.1.1, y3.1.1, ?_⟩, fun q => ⟨Z3.1.1, x3.1.1, ?_⟩⟩
    · have hlt : wv M4 (u + 11) < wv M4 (u + 13) := by
        split at hy
        · omega
        · split at hy <;> omega
      refine (s_MW_less m1 y3 x3 (by omega) (by omega)).mono (fun M5 h5 => ?_)
      obtain ⟨n1, n2, n3, n4⟩ := h5
      have Z5 := Z3.step (c := 13) (by decide) rfl n2 n3.1
      obtain ⟨x5, vx5⟩ := x3.out n2 (by omega) (by omega)
      obtain ⟨z5, vz5⟩ := m3.out n2 (by omega) (by omega)
      have sy5 : mI M5 (u + 13) 1 < 900 := by have := n3.le y3 (by have := x3.nonneg; omega); omega
      refine ⟨n1, Z5.1.1, ?_⟩
      rw [Z5.1.2.2.2.1, Z5.1.2.2.2.2.1]
      refine ⟨x5.1.1, (s_MW_copy n1 x5.1 n3 (by omega) (by omega)).mono (fun M6 h6 => ?_)⟩
      obtain ⟨o1, o2, o3, o4⟩ := h6
      have Z6 := Z5.step (c := 11) (by decide) rfl o2 o3.1
      obtain ⟨z6, vz6⟩ := z5.out o2 (by omega) (by omega)
      have sx6 : mI M6 (u + 11) 1 < 900 := by have := o3.le n3 (by omega); omega
      have sz6 : mI M6 (u + 15) 1 < 900 := by have := z6.le m3 (by omega); omega
      refine ⟨o1, Z6.1.1, by rw [Z6.1.2.1]; exact Z6.2.1.1, ?_⟩
      refine sums_sign o1 Z6 o3 z6 sx6 sz6 (by omega) hw01 (fun M' h' => ?_)
      obtain ⟨q1, q2, q3, q4, q5, q6⟩ := h'
      refine ⟨q1, (((F3.mono (fun x q => by omega)).trans (n2.mono (fun x q => by omega))).trans (o2.mono (fun x q => by omega))).trans q2, q3, q4, q5, ?_⟩
      rw [hval, ← ez, ← vz5, ← vz6, q6, o4, n4]
      congr 1
      rcases ha with p | p <;> rcases hw01 with t | t <;> simp [p, t] at c ⊢ <;> omega
    · have hge : wv M4 (u + 13) ≤ wv M4 (u + 11) := by
        split at hy
        · omega
        · split at hy <;> omega
      refine (s_MW_less m1 x3 y3 (by omega) (by omega)).mono (fun M5 h5 => ?_)
      obtain ⟨n1, n2, n3, n4⟩ := h5
      have Z5 := Z3.step (c := 11) (by decide) rfl n2 n3.1
      have A5 := A3.1.out n2 (fun x q => by omega)
      obtain ⟨z5, vz5⟩ := m3.out n2 (by omega) (by omega)
      have sx5 : mI M5 (u + 11) 1 < 900 := by have := n3.le x3 (by have := y3.nonneg; omega); omega
      have sz5 : mI M5 (u + 15) 1 < 900 := by have := z5.le m3 (by omega); omega
      rw [A5.2.2.2.2.2, ea, Z5.1.2.1]
      refine ⟨n1, Z5.1.1, A5.1.1.1, Z5.2.1.1, ha, ?_⟩
      have hs := sums_sign (G := G) (d := d) (Q := suQ M u (sn M a * sd M b + (if m = 1 then - (sn M b * sd M a) else sn M b * sd M a)) (sd M a * sd M b)) n1 Z5 n3 z5 sx5 sz5 (by omega) ha (fun M' h' => ?_)
      · rw [Z5.1.2.1] at hs
        exact hs
      · obtain ⟨q1, q2, q3, q4, q5, q6⟩ := h'
        refine ⟨q1, ((F3.mono (fun x q => by omega)).trans (n2.mono (fun x q => by omega))).trans q2, q3, q4, q5, ?_⟩
        rw [hval, ← ez, ← vz5, q6, n4]
        congr 1
        rcases ha with p | p <;> rcases hw01 with t | t <;> simp [p, t] at c ⊢ <;> omega
end SU
end
section
/-! The reference's sums: billionths and digits. -/
section SU
variable {G : mG} {d u a b c ra rb : Nat} {M : mM}
theorem s_MU_billionths (hO : mOk M) (hZ : Sz M u) (hA : Fq M a ra) (oa : suO u a) (z1 : mI M (a + 1) 1 < 890) (z2 : mI M (a + 3) 1 < 900) (hv : wv M (a + 1) * 1000000000 / wv M (a + 3) < 2147483648) :
    Ci G y_MU_billionths (d + 3) [vr u, vr a] M (fun x M' => mOk M' ∧ FI (sS u) M M' ∧ Sz M' u ∧ x = wv M (a + 1) * 1000000000 / wv M (a + 3)) := by
  refine k_MU_billionths hO ?_
  rw [hZ.1.2.2.2.2.1]
  refine ⟨hZ.1.1, (hZ.wh 13 (by decide)).1, (s_MW_set (by omega) (by omega) ⟨by omega, by omega⟩ hO (hZ.wh 13 (by decide)) (by omega)).mono (fun M1 h1 => ?_)⟩
  obtain ⟨g1, g2, g3, g4⟩ := h1
  have Z1 := hZ.step (c := 13) (by decide) rfl g2 g3.1
  have A1 := hA.out g2 (fun x q => by omega)
  have za : mI M1 (a + 1) 1 = mI M (a + 1) 1 := by rw [g2.2.2.2.2.2.2 (a + 1) (by omega)]
  have zy : mI M1 (u + 13) 1 ≤ 2 := g3.size (k := 2) (by rw [g4]; decide)
  refine ⟨g1, Z1.1.1, A1.1.1.1, ?_⟩
  rw [Z1.1.2.2.2.1, Z1.1.2.2.2.2.1, A1.1.1.2.1]
  refine ⟨(Z1.wh 11 (by decide)).1, (s_MW_product g1 (Z1.wh 11 (by decide)) A1.1.2.1 g3 (by omega) (by omega) (by omega)).mono (fun M2 h2 => ?_)⟩
  obtain ⟨k1, k2, k3, k4⟩ := h2
  have Z2 := Z1.step (c := 11) (by decide) rfl k2 k3.1
  have A2 := A1.1.out k2 (fun x q => by omega)
  have sx : mI M2 (u + 11) 1 < 900 := by
    have h1 : wv M2 (u + 11) < 16777216 ^ ((mI M1 (a + 1) 1).toNat + (mI M1 (u + 13) 1).toNat) := by
      rw [k4, Int.pow_add]
      exact mul_lt_B A1.1.2.1.lt g3.lt A1.1.2.1.nonneg g3.nonneg
    have h2 := k3.size h1
    have h3 := A1.1.2.1.1.2.2.2.2.2.1
    have h4 := g3.1.2.2.2.2.2.1
    omega
  have sb : mI M2 (a + 3) 1 < 900 := by have := A2.1.2.2.1.le hA.2.2.1 (by rw [A2.2.2.2.2.1, A1.2.2.2.2.1]; omega); omega
  refine ⟨k1, Z2.1.1, A2.1.1.1, ?_⟩
  rw [Z2.1.2.2.2.1, A2.1.1.2.2]
  refine (s_MU_divide0 k1 Z2.1 (Z2.wh 17 (by decide)) (Z2.wh 19 (by decide)) k3 A2.1.2.2.1 (by omega) (by omega) A2.1.2.2.2.2 sx sb).mono (fun M3 h3 => ?_)
  obtain ⟨o1, o2, o3, o4, o5, o6⟩ := h3
  have Z3 : Sz M3 u := ⟨Z2.1.fi o2, Z2.2.1.fi o2, Z2.2.2.1.fi o2, fun c hc => by
    by_cases q1 : c = 17
    · rw [q1]; exact o3.1
    · by_cases q2 : c = 19
      · rw [q2]; exact o4.1
      · refine (Z2.wh c hc).out o2 ?_
        have h1 : ∀ e ∈ szL, e = 17 ∨ e = 19 ∨ e < 17 := by decide
        have h2 := h1 c hc
        omega⟩
  have eq : wv M3 (u + 17) = wv M (a + 1) * 1000000000 / wv M (a + 3) := by
    rw [o5, k4, g4, A1.2.2.2.1, A2.2.2.2.2.1, A1.2.2.2.2.1]
  have F3 : FI (sS u) M M3 := ((g2.mono (fun x q => by omega)).trans (k2.mono (fun x q => by omega))).trans (o2.mono (fun x q => by omega))
  rw [← eq] at hv ⊢
  clear eq
  refine ⟨o1, Z3.1.1, ?_⟩
  rw [Z3.1.2.2.2.2.2.2.1]
  refine ⟨o3.1.1, (s_MW_places o1 o3).mono (fun x M4 h4 => ?_)⟩
  obtain ⟨e4, p1, p2, p3, p4⟩ := h4
  subst e4
  refine ⟨⟨by omega, by omega⟩, o1, ?_⟩
  suffices H : ∀ (k : Nat) (l j : Int), l + 1 = k → l < 30000 → j = wv M4 (u + 17) / 2 ^ k → h_MU_billionths_50 G (d + 2) u j l M4 (fun x M' => mOk M' ∧ FI (sS u) M M' ∧ Sz M' u ∧ x = wv M4 (u + 17)) from
    H x.toNat (x - 1) 0 (by omega) (by omega) (Int.ediv_eq_zero_of_lt o3.nonneg p3).symm
  have n0 := o3.nonneg
  intro k
  induction k with
  | zero =>
    intro l j hk hl hj
    have hj' : j = wv M4 (u + 17) := by rw [hj]; simp
    exact k_MU_billionths_50 o1 ⟨by omega, by omega⟩ ⟨by omega, by omega⟩ ⟨fun _ => ⟨o1, F3, Z3, hj'⟩, fun c => by omega⟩
  | succ k ih =>
    intro l j hk hl hj
    have h1 := half_pow (wv M4 (u + 17)) k
    have h2 : 0 ≤ wv M4 (u + 17) / 2 ^ k := Int.ediv_nonneg n0 (Int.le_of_lt (Int.pow_pos (by decide)))
    have h3 : wv M4 (u + 17) / 2 ^ k ≤ wv M4 (u + 17) := Int.ediv_le_self _ n0
    refine k_MU_billionths_50 o1 ⟨by omega, by omega⟩ ⟨by omega, by omega⟩ ⟨fun c => by omega, fun _ => ⟨Z3.1.1, ?_⟩⟩
    rw [Z3.1.2.2.2.2.2.2.1]
    refine ⟨o3.1.1, (s_MW_bit (by omega) ⟨by omega, by omega⟩ o1 o3).mono (fun y M5 h5 => ?_)⟩
    obtain ⟨e5, hy⟩ := h5
    subst e5
    rw [show l.toNat = k by first | rfl | omega] at hy
    refine ⟨⟨by split at hy <;> omega, by split at hy <;> omega⟩, o1, fun v hv => ih (l + (-1)) _ (by omega) (by omega) ?_⟩
    rw [h1] at hj
    split at hy <;> split at hv <;> omega
end SU
end
end
section
section
/-! The reference's fractions. -/
def Ft (M : mM) (f r : Nat) : Prop := Fk M f ∧ Wh M (f + 1) r ∧ Wh M (f + 3) r
abbrev fS (f : Nat) : Nat → Prop := fun x => f ≤ x ∧ x ≤ f + 4
theorem Fq.ft {M : mM} {f r : Nat} (h : Fq M f r) : Ft M f r := ⟨h.1, h.2.1.1, h.2.2.1.1⟩
theorem Ft.out {S : Nat → Prop} {M M' : mM} {f r : Nat} (h : Ft M f r) (k : FI S M M') (hs : ∀ x, S x → x < f ∨ f + 4 < x) : Ft M' f r :=
  ⟨h.1.fi k, h.2.1.out k (fun q => by have := hs _ q; omega), h.2.2.out k (fun q => by have := hs _ q; omega)⟩
theorem Fc.out {S : Nat → Prop} {M M' : mM} {f r : Nat} (c : Fc M f) (h : Fq M f r) (k : FI S M M') (hs : ∀ x, S x → x < f ∨ f + 4 < x) : Fc M' f := by
  have e := h.out k hs
  unfold Fc xn at c ⊢
  rw [e.2.2.2.1, e.2.2.2.2.1, e.2.2.2.2.2]
  exact c
theorem sn_zero {M : mM} {f : Nat} : sn M f = 0 ↔ wv M (f + 1) = 0 := by
  unfold sn
  split <;> omega
section FS
variable {G : mG} {d a b r rb : Nat} {M : mM}
theorem s_MF_isZero (hO : mOk M) (hA : Fq M a r) : Ci G y_MF_isZero (d + 1) [vr a] M (fun x M' => M' = M ∧ x = if sn M a = 0 then 1 else 0) := by
  refine k_MF_isZero hO ?_
  rw [hA.1.2.1]
  refine ⟨hA.1.1, hA.2.1.1.1, (s_MW_isZero hO hA.2.1.1).mono (fun x M1 h1 => ?_)⟩
  obtain ⟨e1, hx⟩ := h1
  subst e1
  have hz := hA.2.1.zero
  have hx' : x = if sn M1 a = 0 then 1 else 0 := by
    rw [hx]
    by_cases q : mI M1 (a + 1) 1 = 0
    · rw [if_pos q, if_pos (sn_zero.2 (hz.1 q))]
    · rw [if_neg q, if_neg (fun w => q (hz.2 (sn_zero.1 w)))]
  have h01 : x = 0 ∨ x = 1 := by split at hx' <;> omega
  exact ⟨⟨by omega, by omega⟩, hO, h01, rfl, hx'⟩
theorem s_MF_set {j k : Int} (hj : i64 j) (hj2 : -9223372036854775808 < j) (hk : i64 k) (hk0 : 0 < k) (hO : mOk M) (hA : Ft M a r) (hr : 3 ≤ r) : Cv G y_MF_set (d + 1) [vr a, vl j, vl k] M (fun M' => mOk M' ∧ FI (fS a) M M' ∧ Fq M' a r ∧ sn M' a = j ∧ sd M' a = k ∧ (j = 0 → mI M' a 2 = 0)) := by
  unfold i64 at hj hk
  refine k_MF_set hO hj hk (fun v hv => ⟨hA.1.1, fun M1 e1 w hw => ?_⟩)
  have hv' : v = if 0 ≤ j then 0 else 1 := by
    rw [hv]; unfold cmpL
    by_cases q : 0 ≤ j
    · rw [if_pos q, if_pos]; split <;> (try split) <;> omega
    · rw [if_neg q, if_neg]; split <;> (try split) <;> omega
  have hw' : w = if 0 ≤ j then j else -j := by
    rw [hw]; unfold cmpL
    by_cases q : 0 ≤ j
    · rw [if_pos q, if_pos]; split <;> (try split) <;> omega
    · rw [if_neg q, if_neg]; split <;> (try split) <;> omega
  have h01 : v = 0 ∨ v = 1 := by split at hv' <;> omega
  have f1 : FI (fun x => x = a) M M1 := by rw [e1]; exact FI.ui rfl
  have o1 : mOk M1 := by rw [e1]; exact mOk_UI hO ⟨by omega, by omega⟩
  have v1 : mI M1 a 2 = v := by rw [e1, mI_UI, if_pos ⟨rfl, rfl⟩]
  have A1 : Fk M1 a := hA.1.fi f1
  have t1 := hA.2.1.out f1 (by omega)
  have b1 := hA.2.2.out f1 (by omega)
  rw [A1.2.1]
  refine ⟨t1.1, (s_MW_set (by split at hw' <;> omega) (by split at hw' <;> omega) ⟨by split at hw' <;> omega, by split at hw' <;> omega⟩ o1 t1 hr).mono (fun M2 h2 => ?_)⟩
  obtain ⟨g1, g2, g3, g4⟩ := h2
  have A2 := A1.fi g2
  have b2 := b1.out g2 (by omega)
  refine ⟨g1, A2.1, ?_⟩
  rw [A2.2.2]
  refine ⟨b2.1, (s_MW_set (by omega) (by omega) hk g1 b2 hr).mono (fun M3 h3 => ?_)⟩
  obtain ⟨k1, k2, k3, k4⟩ := h3
  obtain ⟨t3, vt3⟩ := g3.out k2 (by omega) (by omega)
  have i3 : mI M3 a 2 = v := by rw [k2.2.2.2.2.2.2 a (by omega), g2.2.2.2.2.2.2 a (by omega)]; exact v1
  refine ⟨k1, k1, ((f1.mono (fun x q => by omega)).trans (g2.mono (fun x q => by omega))).trans (k2.mono (fun x q => by omega)), ⟨A2.fi k2, t3, k3, by rw [i3]; exact h01, by omega⟩, ?_, k4, fun q => ?_⟩
  · unfold sn
    rw [i3, vt3, g4, hv', hw']
    by_cases q : 0 ≤ j
    · simp [q]
    · simp [q]
  · rw [i3, hv', if_pos (by omega)]
theorem s_MF_copy (hO : mOk M) (hA : Ft M a r) (hB : Fq M b rb) (hne : a + 4 < b ∨ b + 4 < a) (z1 : mI M (b + 1) 1 ≤ r) (z2 : mI M (b + 3) 1 ≤ r) : Cv G y_MF_copy (d + 1) [vr a, vr b] M (fun M' => mOk M' ∧ FI (fS a) M M' ∧ Fq M' a r ∧ wv M' (a + 1) = wv M (b + 1) ∧ wv M' (a + 3) = wv M (b + 3) ∧ mI M' a 2 = mI M b 2) := by
  refine k_MF_copy hO ⟨hB.1.1, hA.1.1, hB.2.2.2.1, fun M1 e1 => ?_⟩
  have f1 : FI (fun x => x = a) M M1 := by rw [e1]; exact FI.ui rfl
  have h01 := hB.2.2.2.1
  have o1 : mOk M1 := by rw [e1]; exact mOk_UI hO ⟨by omega, by omega⟩
  have v1 : mI M1 a 2 = mI M b 2 := by rw [e1, mI_UI, if_pos ⟨rfl, rfl⟩]
  have A1 : Fk M1 a := hA.1.fi f1
  have B1 := hB.out f1 (fun x q => by omega)
  have t1 := hA.2.1.out f1 (by omega)
  have b1 := hA.2.2.out f1 (by omega)
  have e2 : mI M1 (b + 1) = mI M (b + 1) := f1.2.2.2.2.2.2 _ (by omega)
  have e3 : mI M1 (b + 3) = mI M (b + 3) := f1.2.2.2.2.2.2 _ (by omega)
  rw [A1.2.1, B1.1.1.2.1]
  refine ⟨t1.1, (s_MW_copy o1 t1 B1.1.2.1 (by omega) (by rw [e2]; exact z1)).mono (fun M2 h2 => ?_)⟩
  obtain ⟨g1, g2, g3, g4⟩ := h2
  have A2 := A1.fi g2
  have B2 := B1.1.out g2 (fun x q => by omega)
  have b2 := b1.out g2 (by omega)
  have e4 : mI M2 (b + 3) = mI M1 (b + 3) := g2.2.2.2.2.2.2 _ (by omega)
  refine ⟨g1, A2.1, B2.1.1.1, ?_⟩
  rw [A2.2.2, B2.1.1.2.2]
  refine ⟨b2.1, (s_MW_copy g1 b2 B2.1.2.2.1 (by omega) (by rw [e4, e3]; exact z2)).mono (fun M3 h3 => ?_)⟩
  obtain ⟨k1, k2, k3, k4⟩ := h3
  obtain ⟨t3, vt3⟩ := g3.out k2 (by omega) (by omega)
  have i3 : mI M3 a 2 = mI M b 2 := by rw [k2.2.2.2.2.2.2 a (by omega), g2.2.2.2.2.2.2 a (by omega)]; exact v1
  have eb : wv M3 (a + 3) = wv M (b + 3) := by rw [k4, B2.2.2.2.2.1, B1.2.2.2.2.1]
  refine ⟨k1, k1, ((f1.mono (fun x q => by omega)).trans (g2.mono (fun x q => by omega))).trans (k2.mono (fun x q => by omega)), ⟨A2.fi k2, t3, k3, by rw [i3]; exact h01, by rw [eb]; exact hB.2.2.2.2⟩, by rw [vt3, g4, B1.2.2.2.1], eb, i3⟩
end FS
end
section
/-! The reference's solver: its places, and which states come to the end. -/
/-- the places of the solver at s: nothing here changes when ints change -/
def Vk (M : mM) (s : Nat) : Prop := mK M s = 17 ∧ (mR M s 0 = s + 1 ∧ mR M s 4 = s + 22 ∧ mR M s 5 = s + 23 ∧ mR M s 6 = s + 24 ∧ mR M s 7 = s + 25 ∧ mR M s 8 = s + 26 ∧ mR M s 9 = s + 27 ∧ mR M s 10 = s + 28)
  ∧ (mR M s 11 = s + 29 ∧ mR M s 12 = s + 30 ∧ mR M s 13 = s + 31 ∧ mR M s 14 = s + 32 ∧ mR M s 15 = s + 33 ∧ mR M s 16 = s + 34 ∧ mR M s 18 = s + 35 ∧ mR M s 19 = s + 36 ∧ mR M s 20 = s + 37)
  ∧ (mR M s 21 = s + 38 ∧ mR M s 22 = s + 39 ∧ mR M s 23 = s + 40 ∧ mR M s 25 = s + 41 ∧ mR M s 26 = s + 42 ∧ mR M s 27 = s + 47 ∧ mR M s 28 = s + 52 ∧ mR M s 29 = s + 57 ∧ mR M s 30 = s + 62 ∧ mR M s 31 = s + 67)
  ∧ (mK M (s + 22) = 30 ∧ mK M (s + 23) = 30 ∧ mK M (s + 24) = 30 ∧ mK M (s + 25) = 30 ∧ mK M (s + 26) = 30 ∧ mK M (s + 27) = 30 ∧ mK M (s + 28) = 30)
  ∧ (mK M (s + 29) = 36 ∧ mK M (s + 30) = 31 ∧ mK M (s + 31) = 36 ∧ mK M (s + 32) = 30 ∧ mK M (s + 33) = 30 ∧ mK M (s + 34) = 30 ∧ mK M (s + 35) = 30 ∧ mK M (s + 36) = 31 ∧ mK M (s + 37) = 31 ∧ mK M (s + 38) = 36 ∧ mK M (s + 39) = 30 ∧ mK M (s + 40) = 30 ∧ mK M (s + 41) = 36 ∧ mK M (s + 67) = 30)
  ∧ (mN M (s + 22) = 513 ∧ mN M (s + 23) = 514 ∧ mN M (s + 24) = 4200 ∧ mN M (s + 25) = 4201 ∧ mN M (s + 26) = 4096 ∧ mN M (s + 27) = 4096 ∧ mN M (s + 28) = 4096)
  ∧ (mN M (s + 29) = 1536 ∧ mN M (s + 30) = 3 ∧ mN M (s + 31) = 512 ∧ mN M (s + 32) = 512 ∧ mN M (s + 33) = 512 ∧ mN M (s + 34) = 512 ∧ mN M (s + 35) = 512 ∧ mN M (s + 36) = 512 ∧ mN M (s + 37) = 512 ∧ mN M (s + 38) = 512 ∧ mN M (s + 39) = 40 ∧ mN M (s + 40) = 512 ∧ mN M (s + 41) = 1640 ∧ mN M (s + 67) = 400)
  ∧ (∀ i j, i < 512 → j < 3 → mR M (s + 29) (3 * i + j) = s + 68 + 25 * i + 5 * j) ∧ (∀ i, i < 512 → mR M (s + 31) i = s + 83 + 25 * i) ∧ (∀ i, i < 512 → mR M (s + 38) i = s + 88 + 25 * i) ∧ (∀ i, i < 1640 → mR M (s + 41) i = s + 12868 + 5 * i)
theorem Vk.fi {S : Nat → Prop} {M M' : mM} {s : Nat} (h : Vk M s) (f : FI S M M') : Vk M' s := by
  obtain ⟨f1, f2, f3, -⟩ := f
  unfold Vk at h ⊢
  rw [f1, f2, f3]
  exact h
theorem Vk.k0 {M : mM} {s : Nat} (h : Vk M s) : mK M s = 17 := h.1
theorem Vk.r0 {M : mM} {s : Nat} (h : Vk M s) : mR M s 0 = s + 1 := h.2.1.1
theorem Vk.r4 {M : mM} {s : Nat} (h : Vk M s) : mR M s 4 = s + 22 := h.2.1.2.1
theorem Vk.r5 {M : mM} {s : Nat} (h : Vk M s) : mR M s 5 = s + 23 := h.2.1.2.2.1
theorem Vk.r6 {M : mM} {s : Nat} (h : Vk M s) : mR M s 6 = s + 24 := h.2.1.2.2.2.1
theorem Vk.r7 {M : mM} {s : Nat} (h : Vk M s) : mR M s 7 = s + 25 := h.2.1.2.2.2.2.1
theorem Vk.r8 {M : mM} {s : Nat} (h : Vk M s) : mR M s 8 = s + 26 := h.2.1.2.2.2.2.2.1
theorem Vk.r9 {M : mM} {s : Nat} (h : Vk M s) : mR M s 9 = s + 27 := h.2.1.2.2.2.2.2.2.1
theorem Vk.r10 {M : mM} {s : Nat} (h : Vk M s) : mR M s 10 = s + 28 := h.2.1.2.2.2.2.2.2.2
theorem Vk.r11 {M : mM} {s : Nat} (h : Vk M s) : mR M s 11 = s + 29 := h.2.2.1.1
theorem Vk.r12 {M : mM} {s : Nat} (h : Vk M s) : mR M s 12 = s + 30 := h.2.2.1.2.1
theorem Vk.r13 {M : mM} {s : Nat} (h : Vk M s) : mR M s 13 = s + 31 := h.2.2.1.2.2.1
theorem Vk.r14 {M : mM} {s : Nat} (h : Vk M s) : mR M s 14 = s + 32 := h.2.2.1.2.2.2.1
theorem Vk.r15 {M : mM} {s : Nat} (h : Vk M s) : mR M s 15 = s + 33 := h.2.2.1.2.2.2.2.1
theorem Vk.r16 {M : mM} {s : Nat} (h : Vk M s) : mR M s 16 = s + 34 := h.2.2.1.2.2.2.2.2.1
theorem Vk.r18 {M : mM} {s : Nat} (h : Vk M s) : mR M s 18 = s + 35 := h.2.2.1.2.2.2.2.2.2.1
theorem Vk.r19 {M : mM} {s : Nat} (h : Vk M s) : mR M s 19 = s + 36 := h.2.2.1.2.2.2.2.2.2.2.1
theorem Vk.r21 {M : mM} {s : Nat} (h : Vk M s) : mR M s 21 = s + 38 := h.2.2.2.1.1
theorem Vk.r22 {M : mM} {s : Nat} (h : Vk M s) : mR M s 22 = s + 39 := h.2.2.2.1.2.1
theorem Vk.r23 {M : mM} {s : Nat} (h : Vk M s) : mR M s 23 = s + 40 := h.2.2.2.1.2.2.1
theorem Vk.r25 {M : mM} {s : Nat} (h : Vk M s) : mR M s 25 = s + 41 := h.2.2.2.1.2.2.2.1
theorem Vk.r26 {M : mM} {s : Nat} (h : Vk M s) : mR M s 26 = s + 42 := h.2.2.2.1.2.2.2.2.1
theorem Vk.r27 {M : mM} {s : Nat} (h : Vk M s) : mR M s 27 = s + 47 := h.2.2.2.1.2.2.2.2.2.1
theorem Vk.r28 {M : mM} {s : Nat} (h : Vk M s) : mR M s 28 = s + 52 := h.2.2.2.1.2.2.2.2.2.2.1
theorem Vk.r29 {M : mM} {s : Nat} (h : Vk M s) : mR M s 29 = s + 57 := h.2.2.2.1.2.2.2.2.2.2.2.1
theorem Vk.r30 {M : mM} {s : Nat} (h : Vk M s) : mR M s 30 = s + 62 := h.2.2.2.1.2.2.2.2.2.2.2.2.1
theorem Vk.r31 {M : mM} {s : Nat} (h : Vk M s) : mR M s 31 = s + 67 := h.2.2.2.1.2.2.2.2.2.2.2.2.2
theorem Vk.k22 {M : mM} {s : Nat} (h : Vk M s) : mK M (s + 22) = 30 := h.2.2.2.2.1.1
theorem Vk.k23 {M : mM} {s : Nat} (h : Vk M s) : mK M (s + 23) = 30 := h.2.2.2.2.1.2.1
theorem Vk.k24 {M : mM} {s : Nat} (h : Vk M s) : mK M (s + 24) = 30 := h.2.2.2.2.1.2.2.1
theorem Vk.k25 {M : mM} {s : Nat} (h : Vk M s) : mK M (s + 25) = 30 := h.2.2.2.2.1.2.2.2.1
theorem Vk.k26 {M : mM} {s : Nat} (h : Vk M s) : mK M (s + 26) = 30 := h.2.2.2.2.1.2.2.2.2.1
theorem Vk.k27 {M : mM} {s : Nat} (h : Vk M s) : mK M (s + 27) = 30 := h.2.2.2.2.1.2.2.2.2.2.1
theorem Vk.k28 {M : mM} {s : Nat} (h : Vk M s) : mK M (s + 28) = 30 := h.2.2.2.2.1.2.2.2.2.2.2
theorem Vk.k29 {M : mM} {s : Nat} (h : Vk M s) : mK M (s + 29) = 36 := h.2.2.2.2.2.1.1
theorem Vk.k30 {M : mM} {s : Nat} (h : Vk M s) : mK M (s + 30) = 31 := h.2.2.2.2.2.1.2.1
theorem Vk.k31 {M : mM} {s : Nat} (h : Vk M s) : mK M (s + 31) = 36 := h.2.2.2.2.2.1.2.2.1
theorem Vk.k32 {M : mM} {s : Nat} (h : Vk M s) : mK M (s + 32) = 30 := h.2.2.2.2.2.1.2.2.2.1
theorem Vk.k33 {M : mM} {s : Nat} (h : Vk M s) : mK M (s + 33) = 30 := h.2.2.2.2.2.1.2.2.2.2.1
theorem Vk.k34 {M : mM} {s : Nat} (h : Vk M s) : mK M (s + 34) = 30 := h.2.2.2.2.2.1.2.2.2.2.2.1
theorem Vk.k35 {M : mM} {s : Nat} (h : Vk M s) : mK M (s + 35) = 30 := h.2.2.2.2.2.1.2.2.2.2.2.2.1
theorem Vk.k36 {M : mM} {s : Nat} (h : Vk M s) : mK M (s + 36) = 31 := h.2.2.2.2.2.1.2.2.2.2.2.2.2.1
theorem Vk.k38 {M : mM} {s : Nat} (h : Vk M s) : mK M (s + 38) = 36 := h.2.2.2.2.2.1.2.2.2.2.2.2.2.2.2.1
theorem Vk.k39 {M : mM} {s : Nat} (h : Vk M s) : mK M (s + 39) = 30 := h.2.2.2.2.2.1.2.2.2.2.2.2.2.2.2.2.1
theorem Vk.k40 {M : mM} {s : Nat} (h : Vk M s) : mK M (s + 40) = 30 := h.2.2.2.2.2.1.2.2.2.2.2.2.2.2.2.2.2.1
theorem Vk.k41 {M : mM} {s : Nat} (h : Vk M s) : mK M (s + 41) = 36 := h.2.2.2.2.2.1.2.2.2.2.2.2.2.2.2.2.2.2.1
theorem Vk.k67 {M : mM} {s : Nat} (h : Vk M s) : mK M (s + 67) = 30 := h.2.2.2.2.2.1.2.2.2.2.2.2.2.2.2.2.2.2.2
theorem Vk.n22 {M : mM} {s : Nat} (h : Vk M s) : mN M (s + 22) = 513 := h.2.2.2.2.2.2.1.1
theorem Vk.n23 {M : mM} {s : Nat} (h : Vk M s) : mN M (s + 23) = 514 := h.2.2.2.2.2.2.1.2.1
theorem Vk.n24 {M : mM} {s : Nat} (h : Vk M s) : mN M (s + 24) = 4200 := h.2.2.2.2.2.2.1.2.2.1
theorem Vk.n25 {M : mM} {s : Nat} (h : Vk M s) : mN M (s + 25) = 4201 := h.2.2.2.2.2.2.1.2.2.2.1
theorem Vk.n26 {M : mM} {s : Nat} (h : Vk M s) : mN M (s + 26) = 4096 := h.2.2.2.2.2.2.1.2.2.2.2.1
theorem Vk.n27 {M : mM} {s : Nat} (h : Vk M s) : mN M (s + 27) = 4096 := h.2.2.2.2.2.2.1.2.2.2.2.2.1
theorem Vk.n28 {M : mM} {s : Nat} (h : Vk M s) : mN M (s + 28) = 4096 := h.2.2.2.2.2.2.1.2.2.2.2.2.2
theorem Vk.n29 {M : mM} {s : Nat} (h : Vk M s) : mN M (s + 29) = 1536 := h.2.2.2.2.2.2.2.1.1
theorem Vk.n30 {M : mM} {s : Nat} (h : Vk M s) : mN M (s + 30) = 3 := h.2.2.2.2.2.2.2.1.2.1
theorem Vk.n31 {M : mM} {s : Nat} (h : Vk M s) : mN M (s + 31) = 512 := h.2.2.2.2.2.2.2.1.2.2.1
theorem Vk.n32 {M : mM} {s : Nat} (h : Vk M s) : mN M (s + 32) = 512 := h.2.2.2.2.2.2.2.1.2.2.2.1
theorem Vk.n33 {M : mM} {s : Nat} (h : Vk M s) : mN M (s + 33) = 512 := h.2.2.2.2.2.2.2.1.2.2.2.2.1
theorem Vk.n34 {M : mM} {s : Nat} (h : Vk M s) : mN M (s + 34) = 512 := h.2.2.2.2.2.2.2.1.2.2.2.2.2.1
theorem Vk.n35 {M : mM} {s : Nat} (h : Vk M s) : mN M (s + 35) = 512 := h.2.2.2.2.2.2.2.1.2.2.2.2.2.2.1
theorem Vk.n36 {M : mM} {s : Nat} (h : Vk M s) : mN M (s + 36) = 512 := h.2.2.2.2.2.2.2.1.2.2.2.2.2.2.2.1
theorem Vk.n38 {M : mM} {s : Nat} (h : Vk M s) : mN M (s + 38) = 512 := h.2.2.2.2.2.2.2.1.2.2.2.2.2.2.2.2.2.1
theorem Vk.n39 {M : mM} {s : Nat} (h : Vk M s) : mN M (s + 39) = 40 := h.2.2.2.2.2.2.2.1.2.2.2.2.2.2.2.2.2.2.1
theorem Vk.n40 {M : mM} {s : Nat} (h : Vk M s) : mN M (s + 40) = 512 := h.2.2.2.2.2.2.2.1.2.2.2.2.2.2.2.2.2.2.2.1
theorem Vk.n41 {M : mM} {s : Nat} (h : Vk M s) : mN M (s + 41) = 1640 := h.2.2.2.2.2.2.2.1.2.2.2.2.2.2.2.2.2.2.2.2.1
theorem Vk.n67 {M : mM} {s : Nat} (h : Vk M s) : mN M (s + 67) = 400 := h.2.2.2.2.2.2.2.1.2.2.2.2.2.2.2.2.2.2.2.2.2
theorem Vk.f29 {M : mM} {s : Nat} (h : Vk M s) : ∀ i j, i < 512 → j < 3 → mR M (s + 29) (3 * i + j) = s + 68 + 25 * i + 5 * j := h.2.2.2.2.2.2.2.2.1
theorem Vk.f31 {M : mM} {s : Nat} (h : Vk M s) : ∀ i, i < 512 → mR M (s + 31) i = s + 83 + 25 * i := h.2.2.2.2.2.2.2.2.2.1
theorem Vk.f38 {M : mM} {s : Nat} (h : Vk M s) : ∀ i, i < 512 → mR M (s + 38) i = s + 88 + 25 * i := h.2.2.2.2.2.2.2.2.2.2.1
theorem Vk.f41 {M : mM} {s : Nat} (h : Vk M s) : ∀ i, i < 1640 → mR M (s + 41) i = s + 12868 + 5 * i := h.2.2.2.2.2.2.2.2.2.2.2
/-- the game told to the solver is sound -/
def GW (M : mM) (s : Nat) : Prop := 0 ≤ mI M s 1 ∧ mI M s 1 ≤ 512 ∧ mI M s 2 ≤ 4200 ∧ mI M s 3 ≤ 4096 ∧ mI M (s + 23) 0 = 0 ∧ mI M (s + 25) 0 = 0
  ∧ (∀ i j : Nat, i ≤ j → (j : Int) ≤ mI M s 1 → mI M (s + 23) i ≤ mI M (s + 23) j) ∧ mI M (s + 23) (mI M s 1).toNat = mI M s 2
  ∧ (∀ i j : Nat, i ≤ j → (j : Int) ≤ mI M s 2 → mI M (s + 25) i ≤ mI M (s + 25) j) ∧ mI M (s + 25) (mI M s 2).toNat = mI M s 3
  ∧ (∀ b : Nat, (b : Int) < mI M s 3 → 0 ≤ mI M (s + 26) b ∧ mI M (s + 26) b < mI M s 1)
theorem GW.out {S : Nat → Prop} {M M' : mM} {s : Nat} (h : GW M s) (f : FI S M M') (h0 : ¬ S s) (h1 : ∀ x, s + 23 ≤ x → x ≤ s + 26 → ¬ S x) : GW M' s := by
  obtain ⟨-, -, -, -, -, -, f⟩ := f
  unfold GW at h ⊢
  rw [f s h0, f (s + 23) (h1 _ (by omega) (by omega)), f (s + 25) (h1 _ (by omega) (by omega)), f (s + 26) (h1 _ (by omega) (by omega))]
  exact h
/-- where the commands of state i begin, and end -/
theorem GW.cmd {M : mM} {s : Nat} (h : GW M s) {i : Nat} (hi : (i : Int) < mI M s 1) : 0 ≤ mI M (s + 23) i ∧ mI M (s + 23) i ≤ mI M (s + 23) (i + 1) ∧ mI M (s + 23) (i + 1) ≤ mI M s 2 := by
  obtain ⟨h1, h2, h3, h4, h5, h6, h7, h8, -⟩ := h
  have a1 := h7 0 i (by omega) (by omega)
  have a2 := h7 i (i + 1) (by omega) (by omega)
  have a3 := h7 (i + 1) (mI M s 1).toNat (by omega) (by omega)
  omega
theorem GW.brn {M : mM} {s : Nat} (h : GW M s) {c : Nat} (hc : (c : Int) < mI M s 2) : 0 ≤ mI M (s + 25) c ∧ mI M (s + 25) c ≤ mI M (s + 25) (c + 1) ∧ mI M (s + 25) (c + 1) ≤ mI M s 3 := by
  obtain ⟨h1, h2, h3, h4, h5, h6, h7, h8, h9, h10, -⟩ := h
  have a1 := h9 0 c (by omega) (by omega)
  have a2 := h9 c (c + 1) (by omega) (by omega)
  have a3 := h9 (c + 1) (mI M s 2).toNat (by omega) (by omega)
  omega
/-- how many commands -/
def mny (M : mM) (s i : Nat) : Int := mI M (s + 23) (i + 1) - mI M (s + 23) i
def mayP (M : mM) (s i k : Nat) : Prop := mI M s 17 ≠ mI M (s + 22) i ∨ mI M (s + 32) i = k
def useP (M : mM) (s i k : Nat) (l : Int) : Prop := ((mI M (s + 22) i ≠ 1 ∨ l = 0) ∧ mayP M s i k) ∨ (¬ (mI M (s + 22) i ≠ 1 ∨ l = 0) ∧ mI M (s + 35) i = k)
/-- command k of state i may lead to a state in T -/
def leadQ (T : Nat → Prop) (M : mM) (s i k : Nat) : Prop := ∃ b : Nat, mI M (s + 25) ((mI M (s + 23) i).toNat + k) ≤ b ∧ (b : Int) < mI M (s + 25) ((mI M (s + 23) i).toNat + k + 1) ∧ T (mI M (s + 26) b).toNat
def comesQ (T : Nat → Prop) (M : mM) (s i : Nat) (l : Int) : Prop := (mI M (s + 22) i = 1 ∧ ∃ k : Nat, (k : Int) < mny M s i ∧ useP M s i k l ∧ leadQ T M s i k) ∨ (mI M (s + 22) i = 2 ∧ 0 < mny M s i ∧ ∀ k : Nat, (k : Int) < mny M s i → useP M s i k l → leadQ T M s i k)
abbrev mkd (M : mM) (s : Nat) : Nat → Prop := fun j => mI M (s + 36) j ≠ 0
section VS
variable {G : mG} {d s : Nat} {M : mM}
theorem s_MS_many {i : Nat} (hO : mOk M) (hV : Vk M s) (hG : GW M s) (hi : (i : Int) < mI M s 1) : Ci G y_MS_many d [vr s, vi i] M (fun x M' => M' = M ∧ x = mny M s i) := by
  have h2 := hG.2.1
  refine k_MS_many hO ⟨by omega, by omega⟩ ?_
  rw [hV.r5, hV.n23]
  refine ⟨hV.k0, hV.k23, by omega, by omega, rfl, ?_⟩
  rw [show ((i : Int) + 1).toNat = i + 1 by first | rfl | omega, Int.toNat_natCast]
  rfl
theorem s_MS_may {i k : Nat} (hk : (k : Int) < 100000) (hO : mOk M) (hV : Vk M s) (hG : GW M s) (hi : (i : Int) < mI M s 1) : Ci G y_MS_may d [vr s, vi i, vi k] M (fun x M' => M' = M ∧ (x = 0 ∨ x = 1) ∧ (x ≠ 0 ↔ mayP M s i k)) := by
  have h2 := hG.2.1
  refine k_MS_may hO ⟨by omega, by omega⟩ ⟨by omega, by omega⟩ ?_
  rw [hV.r4, hV.r14, hV.n22, hV.n32, Int.toNat_natCast]
  refine ⟨hV.k0, hV.k22, by omega, fun _ => ⟨hV.k32, by omega⟩, fun v hv => ⟨rfl, by split at hv <;> omega, ?_⟩⟩
  unfold mayP
  by_cases c : ¬ mI M s 17 = mI M (s + 22) i ∨ mI M (s + 32) i = k
  · rw [if_pos c] at hv
    exact ⟨fun _ => c, fun _ => by omega⟩
  · rw [if_neg c] at hv
    exact ⟨fun q => by omega, fun q => absurd q c⟩
theorem s_MS_leadsIn {i k : Nat} (hO : mOk M) (hV : Vk M s) (hG : GW M s) (hi : (i : Int) < mI M s 1) (hk : (k : Int) < mny M s i) : Ci G y_MS_leadsIn d [vr s, vi i, vi k] M (fun x M' => M' = M ∧ (x = 0 ∨ x = 1) ∧ (x ≠ 0 ↔ leadQ (mkd M s) M s i k)) := by
  have hc := hG.cmd hi
  unfold mny at hk
  have hb := hG.brn (c := (mI M (s + 23) i).toNat + k) (by omega)
  have h2 := hG.2.1
  have h3 := hG.2.2.1
  have h4 := hG.2.2.2.1
  have ht := hG.2.2.2.2.2.2.2.2.2.2
  refine k_MS_leadsIn hO ⟨by omega, by omega⟩ ⟨by omega, by omega⟩ ?_
  rw [hV.r5, hV.r7, hV.n23, hV.n25, Int.toNat_natCast]
  have ec : (mI M (s + 23) i + (k : Int)).toNat = (mI M (s + 23) i).toNat + k := by omega
  have ec1 : (mI M (s + 23) i + (k : Int) + 1).toNat = (mI M (s + 23) i).toNat + k + 1 := by omega
  rw [ec]
  refine ⟨hV.k0, hV.k23, by omega, hV.k25, by omega, ?_⟩
  suffices H : ∀ (n : Nat) (f l : Int), mI M (s + 25) ((mI M (s + 23) i).toNat + k + 1) - l = n → mI M (s + 25) ((mI M (s + 23) i).toNat + k) ≤ l → (f = 0 ∨ f = 1) → (f ≠ 0 ↔ ∃ b : Nat, mI M (s + 25) ((mI M (s + 23) i).toNat + k) ≤ b ∧ (b : Int) < l ∧ mkd M s (mI M (s + 26) b).toNat) → h_MS_leadsIn_20 G d s (mI M (s + 23) i + k) f l M (fun x M' => M' = M ∧ (x = 0 ∨ x = 1) ∧ (x ≠ 0 ↔ leadQ (mkd M s) M s i k)) from
    H _ 0 _ (Int.toNat_of_nonneg (by omega)).symm (by omega) (Or.inl rfl) ⟨fun q => absurd rfl q, fun ⟨b, b1, b2, _⟩ => by omega⟩
  intro n
  induction n with
  | zero =>
    intro f l hn hl hf hq
    refine k_MS_leadsIn_20 hO ⟨by omega, by omega⟩ ⟨by omega, by omega⟩ ⟨by omega, by omega⟩ ?_
    rw [hV.r7, hV.n25, ec1]
    refine ⟨hV.k0, hV.k25, by omega, fun _ => ⟨hf, rfl, hf, ?_⟩, fun c => by omega⟩
    rw [hq]
    unfold leadQ
    have e : l = mI M (s + 25) ((mI M (s + 23) i).toNat + k + 1) := by omega
    rw [e]
  | succ n ih =>
    intro f l hn hl hf hq
    have htl := ht l.toNat (by omega)
    refine k_MS_leadsIn_20 hO ⟨by omega, by omega⟩ ⟨by omega, by omega⟩ ⟨by omega, by omega⟩ ?_
    rw [hV.r7, hV.r8, hV.r19, hV.n25, hV.n26, hV.n36, ec1]
    refine ⟨hV.k0, hV.k25, by omega, fun c => by omega, fun _ => ⟨fun _ => ⟨hV.k26, by omega, hV.k36, by omega⟩, fun v hv => ih v (l + 1) (by omega) (by omega) (by split at hv <;> omega) ?_⟩⟩
    by_cases c : f = 0 ∧ mI M (s + 36) (mI M (s + 26) l.toNat).toNat = 0
    · rw [if_pos c] at hv
      refine ⟨fun q => by omega, fun ⟨b, b1, b2, b3⟩ => ?_⟩
      by_cases z : (b : Int) < l
      · exact absurd c.1 (hq.2 ⟨b, b1, z, b3⟩)
      · have : b = l.toNat := by omega
        rw [this] at b3
        exact absurd c.2 b3
    · rw [if_neg c] at hv
      refine ⟨fun _ => ?_, fun _ => by omega⟩
      by_cases z : f = 0
      · exact ⟨l.toNat, by omega, by omega, fun q => c ⟨z, q⟩⟩
      · obtain ⟨b, b1, b2, b3⟩ := hq.1 z
        exact ⟨b, b1, by omega, b3⟩
end VS
end
end
section
section
/-! The reference's solver: which states come to the end, in words of sets. -/
def exP (P : Nat → Prop) (n : Nat) : Prop := ∃ j, j < n ∧ P j
def alP (P : Nat → Prop) (n : Nat) : Prop := ∀ j, j < n → P j
theorem exP_succ {P : Nat → Prop} {n : Nat} : exP P (n + 1) ↔ exP P n ∨ P n := by
  constructor
  · rintro ⟨j, h1, h2⟩
    by_cases c : j = n
    · subst c; exact Or.inr h2
    · exact Or.inl ⟨j, by omega, h2⟩
  · rintro (⟨j, h1, h2⟩ | h)
    · exact ⟨j, by omega, h2⟩
    · exact ⟨n, by omega, h⟩
theorem alP_succ {P : Nat → Prop} {n : Nat} : alP P (n + 1) ↔ alP P n ∧ P n := by
  constructor
  · intro h
    exact ⟨fun j hj => h j (by omega), h n (by omega)⟩
  · rintro ⟨h1, h2⟩ j hj
    by_cases c : j = n
    · subst c; exact h2
    · exact h1 j (by omega)
theorem comesQ.mono {T T' : Nat → Prop} {M : mM} {s i : Nat} {l : Int} (hG : GW M s) (hi : (i : Int) < mI M s 1) (h : ∀ x : Nat, (x : Int) < mI M s 1 → T x → T' x) (c : comesQ T M s i l) : comesQ T' M s i l := by
  have hl : ∀ k : Nat, (k : Int) < mny M s i → leadQ T M s i k → leadQ T' M s i k := by
    rintro k hk ⟨b, b1, b2, b3⟩
    have h1 := hG.cmd hi
    unfold mny at hk
    have h2 := hG.brn (c := (mI M (s + 23) i).toNat + k) (by omega)
    have h3 := hG.2.2.2.2.2.2.2.2.2.2 b (by omega)
    exact ⟨b, b1, b2, h _ (by omega) b3⟩
  rcases c with ⟨c1, k, c2, c3, c4⟩ | ⟨c1, c2, c3⟩
  · exact Or.inl ⟨c1, k, c2, c3, hl k c2 c4⟩
  · exact Or.inr ⟨c1, c2, fun k hk hu => hl k hk (c3 k hk hu)⟩
theorem comesQ.out {S T : Nat → Prop} {M M' : mM} {s i : Nat} {l : Int} (f : FI S M M') (h0 : ¬ S s) (h1 : ∀ x, s + 22 ≤ x → x ≤ s + 35 → ¬ S x) : comesQ T M' s i l ↔ comesQ T M s i l := by
  obtain ⟨-, -, -, -, -, -, f⟩ := f
  unfold comesQ useP mayP leadQ mny
  rw [f s h0, f (s + 22) (h1 _ (by omega) (by omega)), f (s + 23) (h1 _ (by omega) (by omega)), f (s + 25) (h1 _ (by omega) (by omega)), f (s + 26) (h1 _ (by omega) (by omega)), f (s + 32) (h1 _ (by omega) (by omega)), f (s + 35) (h1 _ (by omega) (by omega))]
section VS
variable {G : mG} {d s : Nat} {M : mM}
theorem s_MS_comes {i : Nat} {l : Int} (hl : i32 l) (hO : mOk M) (hV : Vk M s) (hG : GW M s) (hi : (i : Int) < mI M s 1) : Ci G y_MS_comes (d + 1) [vr s, vi i, vi l] M (fun x M' => M' = M ∧ (x = 0 ∨ x = 1) ∧ (x ≠ 0 ↔ comesQ (mkd M s) M s i l)) := by
  have h2 := hG.2.1
  have h3 := hG.2.2.1
  have hc := hG.cmd hi
  have hm0 : 0 ≤ mny M s i ∧ mny M s i ≤ 4200 := by unfold mny; omega
  refine k_MS_comes hO ⟨by omega, by omega⟩ hl ⟨hV.k0, (s_MS_many hO hV hG hi).mono (fun x M1 h1 => ?_)⟩
  obtain ⟨e1, hx⟩ := h1
  subst e1
  refine ⟨⟨by omega, by omega⟩, hO, fun v hv => ?_⟩
  suffices H : ∀ (n k : Nat) (e a : Int), mny M1 s i - k = n → (e = 0 ∨ e = 1) → (a = 0 ∨ a = 1) → (e ≠ 0 ↔ exP (fun k => useP M1 s i k l ∧ leadQ (mkd M1 s) M1 s i k) k) → (a ≠ 0 ↔ (0 < mny M1 s i ∧ alP (fun k => useP M1 s i k l → leadQ (mkd M1 s) M1 s i k) k)) → h_MS_comes_20 G d s i l e a k M1 (fun x M' => M' = M1 ∧ (x = 0 ∨ x = 1) ∧ (x ≠ 0 ↔ comesQ (mkd M1 s) M1 s i l)) by
    refine H (mny M1 s i).toNat 0 0 v (by omega) (Or.inl rfl) (by split at hv <;> omega) ⟨fun q => absurd rfl q, fun ⟨j, j1, _⟩ => by omega⟩ ?_
    by_cases c : x ≤ 0
    · rw [if_pos c] at hv
      exact ⟨fun q => absurd hv q, fun q => by have := q.1; omega⟩
    · rw [if_neg c] at hv
      exact ⟨fun _ => ⟨by omega, fun j hj => by omega⟩, fun _ => by omega⟩
  clear hv hx v x
  intro n
  induction n with
  | zero =>
    intro k e a hn he ha hqe hqa
    refine k_MS_comes_20 hO ⟨by omega, by omega⟩ hl ⟨by omega, by omega⟩ ⟨by omega, by omega⟩ ⟨by omega, by omega⟩ ⟨hV.k0, (s_MS_many hO hV hG hi).mono (fun x M2 h2' => ?_)⟩
    obtain ⟨e2, hx⟩ := h2'
    subst e2
    refine ⟨⟨by omega, by omega⟩, hO, fun _ => ?_, fun c => by omega⟩
    rw [hV.r4, hV.n22, Int.toNat_natCast]
    have hk : k = (mny M2 s i).toNat := by omega
    refine ⟨hV.k0, hV.k22, by omega, fun _ => by omega, fun v hv => ?_⟩
    have hv01 : v = 0 ∨ v = 1 := by split at hv <;> (try split at hv) <;> (try split at hv) <;> omega
    refine ⟨hv01, rfl, hv01, ?_⟩
    unfold comesQ
    by_cases c1 : mI M2 (s + 22) i = 1
    · rw [if_pos c1] at hv
      rw [hv, hqe]
      constructor
      · rintro ⟨j, j1, j2, j3⟩
        exact Or.inl ⟨c1, j, by omega, j2, j3⟩
      · rintro (⟨_, j, j1, j2, j3⟩ | ⟨q, -⟩)
        · exact ⟨j, by omega, j2, j3⟩
        · omega
    · rw [if_neg c1] at hv
      by_cases c2 : mI M2 (s + 22) i = 2
      · rw [if_pos c2] at hv
        have hva : v ≠ 0 ↔ a ≠ 0 := by
          by_cases z : a = 0
          · rw [if_pos z] at hv; exact ⟨fun q => absurd hv q, fun q => absurd z q⟩
          · rw [if_neg z] at hv; exact ⟨fun _ => z, fun _ => by omega⟩
        rw [hva, hqa]
        constructor
        · rintro ⟨p1, p2⟩
          exact Or.inr ⟨c2, p1, fun j hj => p2 j (by omega)⟩
        · rintro (⟨q, -⟩ | ⟨_, p1, p2⟩)
          · exact absurd q c1
          · exact ⟨p1, fun j hj => p2 j (by omega)⟩
      · rw [if_neg c2] at hv
        constructor
        · intro q; exact absurd hv q
        · rintro (⟨q, -⟩ | ⟨q, -⟩)
          · exact absurd q c1
          · exact absurd q c2
  | succ n ih =>
    intro k e a hn he ha hqe hqa
    have hkm : (k : Int) < mny M1 s i := by omega
    have hk9 : (k : Int) < 100000 := by omega
    refine k_MS_comes_20 hO ⟨by omega, by omega⟩ hl ⟨by omega, by omega⟩ ⟨by omega, by omega⟩ ⟨by omega, by omega⟩ ⟨hV.k0, (s_MS_many hO hV hG hi).mono (fun x M2 h2' => ?_)⟩
    obtain ⟨e2, hx⟩ := h2'
    subst e2
    have h92 : ∀ f g : Int, (f = 0 ∨ f = 1) → (g = 0 ∨ g = 1) → (f ≠ 0 ↔ useP M2 s i k l) → (g ≠ 0 ↔ (useP M2 s i k l ∧ leadQ (mkd M2 s) M2 s i k)) → h_MS_comes_92 G d s i l e a k f g M2 (fun x M' => M' = M2 ∧ (x = 0 ∨ x = 1) ∧ (x ≠ 0 ↔ comesQ (mkd M2 s) M2 s i l)) := by
      intro f g hf hg hqf hqg
      refine k_MS_comes_92 hO ⟨by omega, by omega⟩ hl ⟨by omega, by omega⟩ ⟨by omega, by omega⟩ ⟨by omega, by omega⟩ ⟨by omega, by omega⟩ ⟨by omega, by omega⟩ (fun v hv w hw => ?_)
      refine ih (k + 1) v w (by omega) (by split at hv <;> omega) (by split at hw <;> omega) ?_ ?_
      · rw [exP_succ, ← hqe, ← hqg]
        by_cases c : e = 0 ∧ g = 0
        · rw [if_pos c] at hv
          exact ⟨fun q => absurd hv q, fun q => by rcases q with q | q; exact absurd c.1 q; exact absurd c.2 q⟩
        · rw [if_neg c] at hv
          refine ⟨fun _ => ?_, fun _ => by omega⟩
          by_cases z : e = 0
          · exact Or.inr (fun q => c ⟨z, q⟩)
          · exact Or.inl z
      · rw [alP_succ, ← and_assoc, ← hqa]
        by_cases c : a = 0 ∨ (¬ f = 0 ∧ g = 0)
        · rw [if_pos c] at hw
          refine ⟨fun q => absurd hw q, fun q => ?_⟩
          rcases c with c | c
          · exact absurd c q.1
          · exact absurd c.2 (hqg.2 ⟨hqf.1 c.1, q.2 (hqf.1 c.1)⟩)
        · rw [if_neg c] at hw
          refine ⟨fun _ => ⟨fun q => c (Or.inl q), fun u => ?_⟩, fun _ => by omega⟩
          have hg0 : g ≠ 0 := fun q => c (Or.inr ⟨hqf.2 u, q⟩)
          exact (hqg.1 hg0).2
    have h70 : ∀ f : Int, (f = 0 ∨ f = 1) → (f ≠ 0 ↔ useP M2 s i k l) → h_MS_comes_70 G d s i l e a k f M2 (fun x M' => M' = M2 ∧ (x = 0 ∨ x = 1) ∧ (x ≠ 0 ↔ comesQ (mkd M2 s) M2 s i l)) := by
      intro f hf hqf
      refine k_MS_comes_70 hO ⟨by omega, by omega⟩ hl ⟨by omega, by omega⟩ ⟨by omega, by omega⟩ ⟨by omega, by omega⟩ ⟨by omega, by omega⟩ ⟨fun c => ?_, fun c => ⟨hV.k0, (s_MS_leadsIn hO hV hG hi hkm).mono (fun y M3 h3' => ?_)⟩⟩
      · refine h92 f 0 hf (Or.inl rfl) hqf ⟨fun q => absurd rfl q, fun q => absurd c (hqf.2 q.1)⟩
      · obtain ⟨e3, hy, hqy⟩ := h3'
        subst e3
        refine ⟨⟨by omega, by omega⟩, hO, fun z => ?_, fun z => ?_⟩
        · exact h92 f 0 hf (Or.inl rfl) hqf ⟨fun q => absurd rfl q, fun q => absurd z (hqy.2 q.2)⟩
        · exact h92 f 1 hf (Or.inr rfl) hqf ⟨fun _ => ⟨hqf.1 c, hqy.1 z⟩, fun _ => by omega⟩
    rw [hV.r4, hV.r18, hV.n22, hV.n35, Int.toNat_natCast]
    refine ⟨⟨by omega, by omega⟩, hO, fun c => by omega, fun _ => ⟨hV.k0, hV.k22, by omega, fun c => ?_, fun c => ⟨hV.k35, by omega, fun q => ?_, fun q => ?_⟩⟩⟩
    · refine (s_MS_may hk9 hO hV hG hi).mono (fun y M3 h3' => ?_)
      obtain ⟨e3, hy, hqy⟩ := h3'
      subst e3
      refine ⟨⟨by omega, by omega⟩, hO, h70 y hy ?_⟩
      rw [hqy]
      unfold useP
      exact ⟨fun q => Or.inl ⟨c, q⟩, fun q => by rcases q with q | q; exact q.2; exact absurd c q.1⟩
    · refine h70 1 (Or.inr rfl) ⟨fun _ => Or.inr ⟨c, q⟩, fun _ => by omega⟩
    · refine h70 0 (Or.inl rfl) ⟨fun w => absurd rfl w, fun w => ?_⟩
      rcases w with w | w
      · exact absurd w.1 c
      · exact absurd w.2 q
end VS
end
section
/-! The reference's solver: growing the set of states that come to the end. -/
def cz (f : Nat → Int) : Nat → Nat
  | 0 => 0
  | n + 1 => cz f n + (if f n = 0 then 1 else 0)
theorem cz_congr {f g : Nat → Int} : ∀ (n : Nat), (∀ j, j < n → f j = g j) → cz f n = cz g n
  | 0, _ => rfl
  | n + 1, h => by rw [cz, cz, cz_congr n (fun j hj => h j (by omega)), h n (by omega)]
theorem cz_set {f g : Nat → Int} {i : Nat} (h0 : f i = 0) (h1 : g i = 1) (h : ∀ j, j ≠ i → g j = f j) : ∀ (n : Nat), i < n → cz g n + 1 = cz f n
  | 0, hi => by omega
  | n + 1, hi => by
    rw [cz, cz]
    by_cases c : i = n
    · rw [← c, h0, h1, cz_congr i (fun j hj => h j (by omega))]
      simp
    · have := cz_set h0 h1 h n (by omega)
      rw [h n (by omega)]
      omega
/-- the marks so far: each marked state comes to states marked before it -/
def gvI (M : mM) (s : Nat) (l : Int) (M1 : mM) (ρ : Nat → Nat) (t : Nat) : Prop := mOk M1 ∧ FI (fun x => x = s + 36) M M1 ∧ (∀ j : Nat, (j : Int) < mI M s 1 → (mI M1 (s + 36) j = 0 ∨ mI M1 (s + 36) j = 1) ∧ (mI M (s + 22) j = 3 → mI M1 (s + 36) j = 1) ∧ (mI M1 (s + 36) j = 1 → ρ j < t ∧ (mI M (s + 22) j = 3 ∨ comesQ (fun x => mkd M1 s x ∧ ρ x < ρ j) M s j l)))
def upR (ρ : Nat → Nat) (i t x : Nat) : Nat := if x = i then t else ρ x
theorem upR_i {ρ : Nat → Nat} {i t : Nat} : upR ρ i t i = t := if_pos rfl
theorem upR_n {ρ : Nat → Nat} {i t x : Nat} (h : x ≠ i) : upR ρ i t x = ρ x := if_neg h
abbrev gvQ (M : mM) (s : Nat) (l : Int) : mM → Prop := fun M' => (∃ ρ t, gvI M s l M' ρ t) ∧ ∀ j : Nat, (j : Int) < mI M s 1 → mI M' (s + 36) j = 0 → ¬ comesQ (mkd M' s) M s j l
section VS
variable {G : mG} {d s : Nat} {M : mM}
theorem gv_mark {M1 M2 : mM} {l : Int} {ρ : Nat → Nat} {t i : Nat} (hG : GW M s) (h : gvI M s l M1 ρ t) (hi : (i : Int) < mI M s 1) (h0 : mI M1 (s + 36) i = 0) (hc : comesQ (mkd M1 s) M s i l) (e2 : M2 = mUI M1 (s + 36) i 1) (o2 : mOk M2) : gvI M s l M2 (upR ρ i t) (t + 1) := by
  obtain ⟨g1, g2, g3⟩ := h
  have f2 : FI (fun x => x = s + 36) M1 M2 := by rw [e2]; exact FI.ui rfl
  have hm : ∀ j, mI M2 (s + 36) j = if j = i then 1 else mI M1 (s + 36) j := fun j => by
    rw [e2, mI_UI]
    by_cases z : j = i
    · rw [if_pos ⟨rfl, z⟩, if_pos z]
    · rw [if_neg (fun w => z w.2), if_neg z]
  refine ⟨o2, g2.trans f2, fun j hj => ?_⟩
  obtain ⟨a1, a2, a3⟩ := g3 j hj
  have mono : ∀ x : Nat, mkd M1 s x → mkd M2 s x ∧ x ≠ i := fun x hx => by
    have : x ≠ i := fun q => by subst q; exact hx h0
    exact ⟨by show mI M2 (s + 36) x ≠ 0; rw [hm, if_neg this]; exact hx, this⟩
  rw [hm]
  by_cases z : j = i
  · subst z
    rw [if_pos rfl]
    refine ⟨Or.inr rfl, fun _ => rfl, fun _ => ⟨by rw [upR_i]; omega, Or.inr (hc.mono hG hi (fun x hx w => ?_))⟩⟩
    have hmx := mono x w
    refine ⟨hmx.1, ?_⟩
    have b := g3 x hx
    have w' : mI M1 (s + 36) x ≠ 0 := w
    have b1 : mI M1 (s + 36) x = 1 := by rcases b.1 with q | q; exact absurd q w'; exact q
    have b2 := (b.2.2 b1).1
    rw [upR_n hmx.2, upR_i]
    exact b2
  · rw [if_neg z]
    refine ⟨a1, a2, fun w => ?_⟩
    obtain ⟨c1, c2⟩ := a3 w
    rw [upR_n z]
    refine ⟨by omega, ?_⟩
    rcases c2 with c2 | c2
    · exact Or.inl c2
    · refine Or.inr (c2.mono hG hj (fun x hx w => ?_))
      have hmx := mono x w.1
      exact ⟨hmx.1, by rw [upR_n hmx.2]; exact w.2⟩
theorem s_MS_grow {l : Int} (hl : i32 l) (hO : mOk M) (hV : Vk M s) (hG : GW M s) : Cv G y_MS_grow (d + 2) [vr s, vi l] M (gvQ M s l) := by
  have h1 := hG.1
  have h2 := hG.2.1
  refine k_MS_grow hO hl ?_
  have h47 : ∀ (Z : Nat) (M1 : mM) (ρ : Nat → Nat) (t : Nat) (f : Int), gvI M s l M1 ρ t → cz (mI M1 (s + 36)) (mI M s 1).toNat ≤ Z → ((f = 0 ∧ ∀ j : Nat, (j : Int) < mI M s 1 → mI M1 (s + 36) j = 0 → ¬ comesQ (mkd M1 s) M s j l) ∨ f = 1) → h_MS_grow_39 G (d + 1) s l f M1 (gvQ M s l) := by
    intro Z
    induction Z with
    | zero =>
      intro M1 ρ t f h hz hf
      suffices H : ∀ (n : Nat) (k : Int), mI M s 1 - k = n → 0 ≤ k → h_MS_grow_47 G (d + 1) s l 0 k M1 (gvQ M s l) by
        refine k_MS_grow_39 h.1 hl ⟨by omega, by omega⟩ ⟨fun c => ⟨⟨ρ, t, h⟩, ?_⟩, fun c => H (mI M s 1).toNat 0 (by omega) (by omega)⟩
        rcases hf with q | q
        · exact q.2
        · omega
      have hV1 := hV.fi h.2.1
      have es : mI M1 s = mI M s := h.2.1.2.2.2.2.2.2 s (by omega)
      have hnz : ∀ j : Nat, (j : Int) < mI M s 1 → mI M1 (s + 36) j ≠ 0 := by
        have aux : ∀ (n : Nat), cz (mI M1 (s + 36)) n = 0 → ∀ j, j < n → mI M1 (s + 36) j ≠ 0 := by
          intro n
          induction n with
          | zero => intro _ j hj; omega
          | succ n ih =>
            intro hc j hj
            rw [cz] at hc
            by_cases q : j = n
            · subst q
              intro w
              rw [if_pos w] at hc
              omega
            · exact ih (by omega) j (by omega)
        exact fun j hj => aux (mI M s 1).toNat (by omega) j (by omega)
      intro n
      induction n with
      | zero =>
        intro k hn hk
        refine k_MS_grow_47 h.1 hl ⟨by omega, by omega⟩ ⟨by omega, by omega⟩ ?_
        rw [es]
        refine ⟨hV1.k0, fun _ => k_MS_grow_39 h.1 hl ⟨by omega, by omega⟩ ⟨fun c => ⟨⟨ρ, t, h⟩, fun j hj w => absurd w (hnz j hj)⟩, fun c => absurd rfl c⟩, fun c => by omega⟩
      | succ n ih =>
        intro k hn hk
        refine k_MS_grow_47 h.1 hl ⟨by omega, by omega⟩ ⟨by omega, by omega⟩ ?_
        rw [es, hV1.r19, hV1.n36]
        refine ⟨hV1.k0, fun c => by omega, fun _ => ⟨hV1.k36, by omega, fun c => absurd c (hnz k.toNat (by omega)), fun _ => ih (k + 1) (by omega) (by omega)⟩⟩
    | succ Z ihZ =>
      intro M1 ρ t f h hz hf
      suffices H : ∀ (n : Nat) (k f : Int) (M2 : mM) (ρ : Nat → Nat) (t : Nat), mI M s 1 - k = n → 0 ≤ k → gvI M s l M2 ρ t → ((f = 0 ∧ cz (mI M2 (s + 36)) (mI M s 1).toNat ≤ Z + 1 ∧ ∀ j : Nat, (j : Int) < k → mI M2 (s + 36) j = 0 → ¬ comesQ (mkd M2 s) M s j l) ∨ (f = 1 ∧ cz (mI M2 (s + 36)) (mI M s 1).toNat ≤ Z)) → h_MS_grow_47 G (d + 1) s l f k M2 (gvQ M s l) by
        refine k_MS_grow_39 h.1 hl ⟨by omega, by omega⟩ ⟨fun c => ⟨⟨ρ, t, h⟩, ?_⟩, fun c => H (mI M s 1).toNat 0 0 M1 ρ t (by omega) (by omega) h (Or.inl ⟨rfl, hz, fun j hj => by omega⟩)⟩
        rcases hf with q | q
        · exact q.2
        · omega
      clear hz hf h f t ρ M1
      intro n
      induction n with
      | zero =>
        intro k f M2 ρ t hn hk h hf
        have hV1 := hV.fi h.2.1
        have es : mI M2 s = mI M s := h.2.1.2.2.2.2.2.2 s (by omega)
        have hf01 : f = 0 ∨ f = 1 := by rcases hf with q | q; exact Or.inl q.1; exact Or.inr q.1
        refine k_MS_grow_47 h.1 hl ⟨by omega, by omega⟩ ⟨by omega, by omega⟩ ?_
        rw [es]
        refine ⟨hV1.k0, fun _ => ?_, fun c => by omega⟩
        rcases hf with q | q
        · refine k_MS_grow_39 h.1 hl ⟨by omega, by omega⟩ ⟨fun _ => ⟨⟨ρ, t, h⟩, fun j hj => q.2.2 j (by omega)⟩, fun c => absurd q.1 c⟩
        · exact ihZ M2 ρ t f h q.2 (Or.inr q.1)
      | succ n ih =>
        intro k f M2 ρ t hn hk h hf
        have hV1 := hV.fi h.2.1
        have hG1 := hG.out h.2.1 (by omega) (fun x _ _ => by omega)
        have es : mI M2 s = mI M s := h.2.1.2.2.2.2.2.2 s (by omega)
        have hf01 : f = 0 ∨ f = 1 := by rcases hf with q | q; exact Or.inl q.1; exact Or.inr q.1
        have ek : ((k.toNat : Nat) : Int) = k := by omega
        refine k_MS_grow_47 h.1 hl ⟨by omega, by omega⟩ ⟨by omega, by omega⟩ ?_
        rw [es, hV1.r19, hV1.n36]
        refine ⟨hV1.k0, fun c => by omega, fun _ => ⟨hV1.k36, by omega, fun c => ?_, fun c => ih (k + 1) f M2 ρ t (by omega) (by omega) h ?_⟩⟩
        · have hcm := s_MS_comes (G := G) (d := d) (i := k.toNat) hl h.1 hV1 hG1 (by rw [es]; omega)
          rw [ek] at hcm
          refine hcm.mono (fun x M3 h3 => ?_)
          obtain ⟨e3, hx, hqx⟩ := h3
          subst e3
          rw [comesQ.out h.2.1 (by omega) (fun x _ _ => by omega)] at hqx
          rw [hV1.r19, hV1.n36]
          refine ⟨⟨by omega, by omega⟩, h.1, fun _ => ⟨hV1.k0, hV1.k36, by omega⟩, fun v hv M4 e4 => ?_⟩
          by_cases z : x = 0
          · rw [if_pos z] at hv e4
            subst e4
            refine ⟨h.1, ?_⟩
            rw [hv]
            refine ih (k + 1) f M4 ρ t (by omega) (by omega) h ?_
            rcases hf with q | q
            · refine Or.inl ⟨q.1, q.2.1, fun j hj w => ?_⟩
              by_cases y : j = k.toNat
              · rw [y]
                exact fun cc => (hqx.2 cc) z
              · exact q.2.2 j (by omega) w
            · exact Or.inr q
          · rw [if_neg z] at hv e4
            have o4 : mOk M4 := by rw [e4]; exact mOk_UI h.1 ⟨by omega, by omega⟩
            have hg := gv_mark hG h (i := k.toNat) (by omega) c (hqx.1 z) e4 o4
            refine ⟨o4, ?_⟩
            rw [hv]
            refine ih (k + 1) 1 M4 _ _ (by omega) (by omega) hg (Or.inr ⟨rfl, ?_⟩)
            have hcs := cz_set (f := mI M3 (s + 36)) (g := mI M4 (s + 36)) (i := k.toNat) c (by rw [e4, mI_UI, if_pos ⟨rfl, rfl⟩]) (fun j hj => by rw [e4, mI_UI, if_neg (fun w => hj w.2)]) (mI M s 1).toNat (by omega)
            rcases hf with q | q
            · have := q.2.1; omega
            · have := q.2; omega
        · rcases hf with q | q
          · refine Or.inl ⟨q.1, q.2.1, fun j hj w => ?_⟩
            by_cases y : j = k.toNat
            · subst y
              exact absurd w c
            · exact q.2.2 j (by omega) w
          · exact Or.inr q
  suffices H : ∀ (n : Nat) (k : Int) (M1 : mM), mI M s 1 - k = n → 0 ≤ k → mOk M1 → FI (fun x => x = s + 36) M M1 → (∀ j : Nat, (j : Int) < k → mI M1 (s + 36) j = if mI M (s + 22) j = 3 then 1 else 0) → h_MS_grow_2 G (d + 1) s l k M1 (gvQ M s l) from
    H (mI M s 1).toNat 0 M (by omega) (by omega) hO FI.refl (fun j hj => by omega)
  intro n
  induction n with
  | zero =>
    intro k M1 hn hk o1 f1 hq
    have hV1 := hV.fi f1
    have es : mI M1 s = mI M s := f1.2.2.2.2.2.2 s (by omega)
    refine k_MS_grow_2 o1 hl ⟨by omega, by omega⟩ ?_
    rw [es]
    refine ⟨hV1.k0, fun _ => h47 _ M1 (fun _ => 0) 1 1 ⟨o1, f1, fun j hj => ?_⟩ (Nat.le_refl _) (Or.inr rfl), fun c => by omega⟩
    have e := hq j (by omega)
    by_cases z : mI M (s + 22) j = 3
    · rw [if_pos z] at e
      exact ⟨Or.inr e, fun _ => e, fun _ => ⟨Nat.zero_lt_one, Or.inl z⟩⟩
    · rw [if_neg z] at e
      exact ⟨Or.inl e, fun w => absurd w z, fun w => by omega⟩
  | succ n ih =>
    intro k M1 hn hk o1 f1 hq
    have hV1 := hV.fi f1
    have es : mI M1 s = mI M s := f1.2.2.2.2.2.2 s (by omega)
    have e22 : mI M1 (s + 22) = mI M (s + 22) := f1.2.2.2.2.2.2 _ (by omega)
    refine k_MS_grow_2 o1 hl ⟨by omega, by omega⟩ ?_
    rw [es, hV1.r4, hV1.r19, hV1.n22, hV1.n36, e22]
    refine ⟨hV1.k0, fun c => by omega, fun _ => ⟨hV1.k22, by omega, fun v hv => ⟨hV1.k36, by omega, fun M2 e2 => ?_⟩⟩⟩
    refine ih (k + 1) M2 (by omega) (by omega) (by rw [e2]; exact mOk_UI o1 ⟨by split at hv <;> omega, by split at hv <;> omega⟩) (f1.trans (by rw [e2]; exact FI.ui rfl)) (fun j hj => ?_)
    rw [e2, mI_UI]
    by_cases z : j = k.toNat
    · rw [if_pos ⟨rfl, z⟩, hv, z]
    · rw [if_neg (fun w => z w.2)]
      exact hq j (by omega)
end VS
end
end
section
/-! The reference's solver: how many unknown states, and how heavy. -/
theorem l_shl1 : ∀ k : Nat, k < 63 → shlL 1 (k : Int) = 2 ^ k := by decide
def sm (f : Nat → Int) : Nat → Int
  | 0 => 0
  | n + 1 => sm f n + f n
theorem sm_congr {f g : Nat → Int} : ∀ (n : Nat), (∀ j, j < n → f j = g j) → sm f n = sm g n
  | 0, _ => rfl
  | n + 1, h => by rw [sm, sm, sm_congr n (fun j hj => h j (by omega)), h n (by omega)]
/-- a state whose value must be worked out -/
abbrev unk (M : mM) (s i : Nat) : Prop := mI M (s + 36) i ≠ 0 ∧ mI M (s + 22) i ≠ 3
/-- w bits hold twice what each command of state i that may be taken is divided by -/
def hvy (M : mM) (s i : Nat) (w : Int) : Prop := 0 ≤ w ∧ w ≤ 32 ∧ ∃ D : Int, 1 ≤ D ∧ 2 * D ≤ 2 ^ w.toNat ∧ ∀ k : Nat, (k : Int) < mny M s i → mayP M s i k → mI M (s + 24) ((mI M (s + 23) i).toNat + k) ≤ D
def lokQ (M : mM) (s : Nat) : Prop := ∃ w : Nat → Int, (∀ i : Nat, (i : Int) < mI M s 1 → (unk M s i → hvy M s i (w i)) ∧ (¬ unk M s i → w i = 0)) ∧ sm w (mI M s 1).toNat ≤ 480 ∧ sm (fun i => if unk M s i then 1 else 0) (mI M s 1).toNat ≤ 40
end
section
/-! The unknown states: the least closed set; their weights; what solve answers. Pure. -/
section LST
variable {T : xt9} {J J' : Nat → Prop} {x : Int × List sc9} {c : sc9} {k : Nat} {r r' g g' : Int} {w w' : Nat}
/-- a command leads into J -/
def ldA9 (J : Nat → Prop) (c : sc9) : Prop := ∃ b, b ∈ c.2.2 ∧ J b.1
/-- a state comes to J -/
def coA9 (J : Nat → Prop) (x : Int × List sc9) : Prop := (x.1 = 1 ∧ ∃ c, c ∈ x.2 ∧ ldA9 J c) ∨ (x.1 = 2 ∧ x.2 ≠ [] ∧ ∀ c, c ∈ x.2 → ldA9 J c)
/-- targets are in, and what comes to it -/
def clA9 (T : xt9) (J : Nat → Prop) : Prop := ∀ k x, T[k]? = some x → (x.1 = 3 ∨ coA9 J x) → J k
def lsA9 (T : xt9) (J : Nat → Prop) : Prop := clA9 T J ∧ ∀ J', clA9 T J' → ∀ k, J k → J' k
theorem lsA9.same (h : lsA9 T J) (h' : lsA9 T J') (k : Nat) : J k ↔ J' k := ⟨h.2 J' h'.1 k, h'.2 J h.1 k⟩
theorem ldA9.mono (h : ldA9 J c) (m : ∀ k, J k → J' k) : ldA9 J' c := by
  obtain ⟨b, h1, h2⟩ := h
  exact ⟨b, h1, m _ h2⟩
theorem coA9.mono (h : coA9 J x) (m : ∀ k, J k → J' k) : coA9 J' x := by
  rcases h with ⟨h1, c, h2, h3⟩ | ⟨h1, h2, h3⟩
  · exact Or.inl ⟨h1, c, h2, h3.mono m⟩
  · exact Or.inr ⟨h1, h2, fun c hc => (h3 c hc).mono m⟩
/-- there is one -/
theorem ls_ex : lsA9 T (fun k => ∀ J', clA9 T J' → J' k) := by
  refine ⟨fun k x hx h J' hc => hc k x hx ?_, fun J' hc k h => h J' hc⟩
  rcases h with h | h
  · exact Or.inl h
  · exact Or.inr (h.mono (fun j hj => hj J' hc))
/-- marks with ranks: every closed set holds them -/
theorem rk_in (ρ : Nat → Nat) (h : ∀ k, J k → ∃ x, T[k]? = some x ∧ (x.1 = 3 ∨ coA9 (fun j => J j ∧ ρ j < ρ k) x)) (hc : clA9 T J') : ∀ k, J k → J' k := by
  have H : ∀ n k, ρ k = n → J k → J' k := by
    intro n
    induction n using Nat.strongRecOn with
    | ind n ih =>
      intro k hk hJ
      obtain ⟨x, h1, h2⟩ := h k hJ
      refine hc k x h1 ?_
      rcases h2 with h2 | h2
      · exact Or.inl h2
      · exact Or.inr (h2.mono (fun j hj => ih (ρ j) (by rw [← hk]; exact hj.2) j rfl hj.1))
  exact fun k hJ => H _ k rfl hJ
/-- the greatest multiple, at least 1 -/
def gmA9 (l : List sc9) (g : Int) : Prop := 1 ≤ g ∧ (∀ c, c ∈ l → c.2.1 ≤ g) ∧ (g = 1 ∨ ∃ c, c ∈ l ∧ c.2.1 = g)
theorem gmA9.le {l : List sc9} (h : gmA9 l g) (h' : gmA9 l g') : g ≤ g' := by
  rcases h.2.2 with e | ⟨c, hc, e⟩
  · rw [e]; exact h'.1
  · rw [← e]; exact h'.2.1 c hc
/-- its weight: the least w with 2^w not below twice as much -/
def wtA9 (g : Int) (w : Nat) : Prop := 2 * g ≤ 2 ^ w ∧ ∀ v : Nat, v < w → (2 : Int) ^ v < 2 * g
theorem wtA9.le (h : wtA9 g w) (h' : wtA9 g w') : w ≤ w' := by
  rcases Nat.lt_or_ge w' w with u | u
  · have a := h.2 w' u
    have b := h'.1
    omega
  · exact u
def weA9 (x : Int × List sc9) (w : Int) : Prop := ∃ (g : Int) (v : Nat), gmA9 x.2 g ∧ wtA9 g v ∧ w = ((v : Nat) : Int)
theorem weA9.same {a b : Int} (h : weA9 x a) (h' : weA9 x b) : a = b := by
  obtain ⟨g, v, h1, h2, h3⟩ := h
  obtain ⟨g', v', k1, k2, k3⟩ := h'
  have eg : g = g' := Int.le_antisymm (h1.le k1) (k1.le h1)
  subst eg
  have ev : v = v' := Nat.le_antisymm (h2.le k2) (k2.le h2)
  rw [h3, k3, ev]
/-- which states are unknown: e is 1 there, 0 elsewhere -/
def unA9 (T : xt9) (J : Nat → Prop) (e : Nat → Int) : Prop := ∀ k x, T[k]? = some x → ((J k ∧ x.1 ≠ 3) → e k = 1) ∧ (¬ (J k ∧ x.1 ≠ 3) → e k = 0)
/-- what solve answers -/
def svA9 (T : xt9) (r : Int) : Prop := ∃ (J : Nat → Prop) (e : Nat → Int), lsA9 T J ∧ unA9 T J e ∧ ((40 < sm e T.length ∧ r = 5) ∨ (sm e T.length ≤ 40 ∧ ∃ w : Nat → Int, (∀ k x, T[k]? = some x → (e k = 1 → weA9 x (w k)) ∧ (e k = 0 → w k = 0)) ∧ ((480 < sm w T.length ∧ r = 6) ∨ (sm w T.length ≤ 480 ∧ r = 0))))
theorem svA9.same (h : svA9 T r) (h' : svA9 T r') : r = r' := by
  obtain ⟨J, e, h1, h2, h3⟩ := h
  obtain ⟨J', e', k1, k2, k3⟩ := h'
  have at9 : ∀ k, k < T.length → ∃ x, T[k]? = some x := fun k hk => ⟨_, List.getElem?_eq_getElem hk⟩
  have ee : ∀ k, k < T.length → e k = e' k ∧ (e k = 0 ∨ e k = 1) := fun k hk => by
    obtain ⟨x, hx⟩ := at9 k hk
    have a := h2 k x hx
    have b := k2 k x hx
    have s := h1.same k1 k
    by_cases u : J k ∧ x.1 ≠ 3
    · exact ⟨by rw [a.1 u, b.1 ⟨s.mp u.1, u.2⟩], Or.inr (a.1 u)⟩
    · exact ⟨by rw [a.2 u, b.2 (fun v => u ⟨s.mpr v.1, v.2⟩)], Or.inl (a.2 u)⟩
  have es : sm e T.length = sm e' T.length := sm_congr _ (fun k hk => (ee k hk).1)
  rcases h3 with ⟨a1, a2⟩ | ⟨a1, w, a2, a3⟩
  · rcases k3 with ⟨b1, b2⟩ | ⟨b1, w', b2, b3⟩
    · rw [a2, b2]
    · omega
  · rcases k3 with ⟨b1, b2⟩ | ⟨b1, w', b2, b3⟩
    · omega
    · have ws : sm w T.length = sm w' T.length := sm_congr _ (fun k hk => by
        obtain ⟨x, hx⟩ := at9 k hk
        obtain ⟨e1, e2⟩ := ee k hk
        rcases e2 with y | y
        · rw [(a2 k x hx).2 y, (b2 k x hx).2 (by rw [← e1]; exact y)]
        · exact ((a2 k x hx).1 y).same ((b2 k x hx).1 (by rw [← e1]; exact y)))
      rcases a3 with ⟨u1, u2⟩ | ⟨u1, u2⟩ <;> rcases b3 with ⟨v1, v2⟩ | ⟨v1, v2⟩
      · rw [u2, v2]
      · omega
      · omega
      · rw [u2, v2]
/-- marked states are in the least set: there are no more of them than it has -/
theorem sm_le9 {e f : Nat → Int} : ∀ n, (∀ k, k < n → e k ≤ f k) → sm e n ≤ sm f n
  | 0, _ => Int.le_refl _
  | n + 1, h => by
    have a := sm_le9 n (fun k hk => h k (by omega))
    have b := h n (by omega)
    show sm e n + e n ≤ sm f n + f n
    omega
theorem un_ex (J : Nat → Prop) : ∃ e : Nat → Int, unA9 T J e := by
  refine ⟨fun k => @ite Int (∃ x, T[k]? = some x ∧ J k ∧ x.1 ≠ 3) (Classical.propDecidable _) 1 0, fun k x hx => ⟨fun u => ?_, fun u => ?_⟩⟩
  · exact if_pos ⟨x, hx, u⟩
  · refine if_neg (fun v => ?_)
    obtain ⟨y, hy, v1⟩ := v
    rw [hx] at hy
    have e := Option.some.inj hy
    subst e
    exact u v1
end LST
end
section
/-! The reference's solver: which states are unknown, how heavy they are, exactly. -/
/-- the weight of state i -/
def hvX (M : mM) (s i : Nat) (w : Int) : Prop := ∃ (D : Int) (v : Nat), 1 ≤ D ∧ (∀ k : Nat, (k : Int) < mny M s i → mayP M s i k → mI M (s + 24) ((mI M (s + 23) i).toNat + k) ≤ D) ∧ (D = 1 ∨ ∃ k : Nat, (k : Int) < mny M s i ∧ mayP M s i k ∧ mI M (s + 24) ((mI M (s + 23) i).toNat + k) = D) ∧ wtA9 D v ∧ w = ((v : Nat) : Int)
/-- D is the greatest multiple of the first k commands, at least 1 -/
def gmX (M : mM) (s i k : Nat) (D : Int) : Prop := (∀ k' : Nat, k' < k → mayP M s i k' → mI M (s + 24) ((mI M (s + 23) i).toNat + k') ≤ D) ∧ (D = 1 ∨ ∃ k' : Nat, k' < k ∧ mayP M s i k' ∧ mI M (s + 24) ((mI M (s + 23) i).toNat + k') = D)
def lokX (M : mM) (s : Nat) (x : Int) : Prop := ∃ e w : Nat → Int, (∀ i : Nat, (i : Int) < mI M s 1 → (unk M s i → e i = 1 ∧ hvX M s i (w i)) ∧ (¬ unk M s i → e i = 0 ∧ w i = 0)) ∧ ((40 < sm e (mI M s 1).toNat ∧ x = 5) ∨ (sm e (mI M s 1).toNat ≤ 40 ∧ 480 < sm w (mI M s 1).toNat ∧ x = 6) ∨ (sm e (mI M s 1).toNat ≤ 40 ∧ sm w (mI M s 1).toNat ≤ 480 ∧ x = 0))
section VSX
variable {G : mG} {d s : Nat} {M : mM}
theorem x_MS_weight {j : Int} (h0 : 1 ≤ j) (h1 : j < 2147483648) (hO : mOk M) : Ci G y_MS_weight d [vl j] M (fun x M' => M' = M ∧ 0 ≤ x ∧ x ≤ 32 ∧ wtA9 j x.toNat) := by
  refine k_MS_weight hO ⟨by omega, by omega⟩ ?_
  suffices H : ∀ (n l : Nat), n + l = 32 → (∀ v : Nat, v < l → (2 : Int) ^ v < 2 * j) → h_MS_weight_2 G d j l M (fun x M' => M' = M ∧ 0 ≤ x ∧ x ≤ 32 ∧ wtA9 j x.toNat) from H 32 0 rfl (fun v hv => absurd hv (by omega))
  intro n
  induction n with
  | zero =>
    intro l hl lw
    have e : l = 32 := by omega
    subst e
    refine k_MS_weight_2 hO ⟨by omega, by omega⟩ ⟨by omega, by omega⟩ ⟨⟨by omega, by omega⟩, fun _ => ⟨rfl, by omega, by omega, ?_, fun v hv => lw v (by omega)⟩, fun c => absurd ?_ c⟩
    · show 2 * j ≤ 4294967296
      omega
    · rw [l_shl1 32 (by omega)]
      unfold cmpL
      split
      · omega
      · have : 2 * j ≤ (2 : Int) ^ 32 := by show 2 * j ≤ 4294967296; omega
        rw [if_pos (by omega)]; omega
  | succ n ih =>
    intro l hl lw
    refine k_MS_weight_2 hO ⟨by omega, by omega⟩ ⟨by omega, by omega⟩ ⟨⟨by omega, by omega⟩, fun c => ⟨rfl, by omega, by omega, ?_, fun v hv => lw v (by rw [Int.toNat_natCast] at hv; exact hv)⟩, fun c => ih (l + 1) (by omega) (fun v hv => ?_)⟩
    · rw [l_shl1 l (by omega)] at c
      rw [Int.toNat_natCast]
      unfold cmpL at c
      split at c
      · omega
      · split at c <;> omega
    · by_cases z : v = l
      · rw [z]
        rw [l_shl1 l (by omega)] at c
        unfold cmpL at c
        split at c
        · omega
        · split at c <;> omega
      · exact lw v (by omega)
theorem x_MS_look (hO : mOk M) (hV : Vk M s) (hG : GW M s) : Ci G y_MS_look (d + 3) [vr s] M (fun x M' => gvQ M s 0 M' ∧ lokX M' s x) := by
  have g1 := hG.1
  have g2 := hG.2.1
  have g3 := hG.2.2.1
  refine k_MS_look hO ⟨hV.k0, (s_MS_grow ⟨by omega, by omega⟩ hO hV hG).mono (fun M1 h1 => ?_)⟩
  obtain ⟨ρ, t, hg⟩ := h1.1
  obtain ⟨o1, f1, -⟩ := hg
  have hV1 := hV.fi f1
  have hG1 := hG.out f1 (by omega) (fun x _ _ => by omega)
  have es : mI M1 s = mI M s := f1.2.2.2.2.2.2 s (by omega)
  refine ⟨o1, ?_⟩
  suffices H : ∀ (n i : Nat) (c a : Int) (e w : Nat → Int), mI M s 1 - i = n → (∀ j : Nat, j < i → (unk M1 s j → e j = 1 ∧ hvX M1 s j (w j)) ∧ (¬ unk M1 s j → e j = 0 ∧ w j = 0)) → a = sm w i → c = sm e i → 0 ≤ a → a ≤ 32 * i → 0 ≤ c → c ≤ i → h_MS_look_11 G (d + 2) s c a i M1 (fun x M' => gvQ M s 0 M' ∧ lokX M' s x) from
    H (mI M s 1).toNat 0 0 0 (fun _ => 0) (fun _ => 0) (by omega) (fun j hj => by omega) rfl rfl (by omega) (by omega) (by omega) (by omega)
  intro n
  induction n with
  | zero =>
    intro i c a e w hn hw ha hc a0 a1 c0 c1
    refine k_MS_look_11 o1 ⟨by omega, by omega⟩ ⟨by omega, by omega⟩ ⟨by omega, by omega⟩ ?_
    rw [es]
    have ei : (mI M s 1).toNat = i := by omega
    refine ⟨hV1.k0, fun _ v hv => ⟨h1, e, w, fun j hj => hw j (by rw [es] at hj; omega), ?_⟩, fun q => by omega⟩
    rw [es, ei, ← ha, ← hc]
    split at hv
    · split at hv
      · exact Or.inr (Or.inr ⟨by omega, by omega, hv⟩)
      · exact Or.inr (Or.inl ⟨by omega, by omega, hv⟩)
    · exact Or.inl ⟨by omega, hv⟩
  | succ n ih =>
    intro i c a e w hn hw ha hc a0 a1 c0 c1
    have hi : (i : Int) < mI M1 s 1 := by rw [es]; omega
    have hcm := hG1.cmd hi
    rw [es] at hcm
    have hm0 : 0 ≤ mny M1 s i ∧ mny M1 s i ≤ 4200 := by unfold mny; omega
    refine k_MS_look_11 o1 ⟨by omega, by omega⟩ ⟨by omega, by omega⟩ ⟨by omega, by omega⟩ ?_
    rw [es, hV1.r4, hV1.r19, hV1.n22, hV1.n36, Int.toNat_natCast]
    refine ⟨hV1.k0, fun q => by omega, fun _ => ⟨hV1.k36, by omega, fun _ => ⟨hV1.k22, by omega⟩, fun q => ?_, fun q => ?_⟩⟩
    · have hu : ¬ unk M1 s i := fun u => by rcases q with q | q; exact u.1 q; exact u.2 q
      refine ih (i + 1) c a (fun j => if j = i then 0 else e j) (fun j => if j = i then 0 else w j) (by omega) (fun j hj => ?_) ?_ ?_ a0 (by omega) c0 (by omega)
      · by_cases z : j = i
        · subst z
          exact ⟨fun u => absurd u hu, fun _ => ⟨if_pos rfl, if_pos rfl⟩⟩
        · show (unk M1 s j → (if j = i then 0 else e j) = 1 ∧ hvX M1 s j (if j = i then 0 else w j)) ∧ (¬ unk M1 s j → (if j = i then 0 else e j) = 0 ∧ (if j = i then 0 else w j) = 0)
          rw [if_neg z, if_neg z]
          exact hw j (by omega)
      · rw [sm, sm_congr (g := w) i (fun j hj => if_neg (by omega)), if_pos rfl, ha, Int.add_zero]
      · rw [sm, sm_congr (g := e) i (fun j hj => if_neg (by omega)), if_pos rfl, hc, Int.add_zero]
    · have hu : unk M1 s i := ⟨fun z => q (Or.inl z), fun z => q (Or.inr z)⟩
      suffices H2 : ∀ (m k : Nat) (D : Int), mny M1 s i - k = m → 1 ≤ D → D < 2147483648 → gmX M1 s i k D → h_MS_look_47 G (d + 2) s (c + 1) a i D k M1 (fun x M' => gvQ M s 0 M' ∧ lokX M' s x) from
        H2 (mny M1 s i).toNat 0 1 (by omega) (by omega) (by omega) ⟨fun k' hk => by omega, Or.inl rfl⟩
      intro m
      induction m with
      | zero =>
        intro k D hm d1 d2 hD
        refine k_MS_look_47 o1 ⟨by omega, by omega⟩ ⟨by omega, by omega⟩ ⟨by omega, by omega⟩ ⟨by omega, by omega⟩ ⟨by omega, by omega⟩ ⟨hV1.k0, (s_MS_many o1 hV1 hG1 hi).mono (fun x M2 h2 => ?_)⟩
        obtain ⟨e2, hx⟩ := h2
        subst e2
        refine ⟨⟨by omega, by omega⟩, o1, fun _ => ?_, fun z => by omega⟩
        refine (x_MS_weight d1 d2 o1).mono (fun y M3 h3 => ?_)
        obtain ⟨e3, y0, y1, y2⟩ := h3
        subst e3
        refine ⟨⟨by omega, by omega⟩, o1, ?_⟩
        refine ih (i + 1) (c + 1) (a + y) (fun j => if j = i then 1 else e j) (fun j => if j = i then y else w j) (by omega) (fun j hj => ?_) ?_ ?_ (by omega) (by omega) (by omega) (by omega)
        · by_cases z : j = i
          · subst z
            refine ⟨fun _ => ⟨if_pos rfl, ?_⟩, fun u => absurd hu u⟩
            show hvX M3 s j (if j = j then y else w j)
            rw [if_pos rfl]
            refine ⟨D, y.toNat, d1, fun k' hk' hp => hD.1 k' (by omega) hp, ?_, y2, by omega⟩
            rcases hD.2 with u | ⟨k', u1, u2, u3⟩
            · exact Or.inl u
            · exact Or.inr ⟨k', by omega, u2, u3⟩
          · show (unk M3 s j → (if j = i then 1 else e j) = 1 ∧ hvX M3 s j (if j = i then y else w j)) ∧ (¬ unk M3 s j → (if j = i then 1 else e j) = 0 ∧ (if j = i then y else w j) = 0)
            rw [if_neg z, if_neg z]
            exact hw j (by omega)
        · rw [sm, sm_congr (g := w) i (fun j hj => if_neg (by omega)), if_pos rfl, ha]
        · rw [sm, sm_congr (g := e) i (fun j hj => if_neg (by omega)), if_pos rfl, hc]
      | succ m ih2 =>
        intro k D hm d1 d2 hD
        have hk9 : (k : Int) < 100000 := by omega
        refine k_MS_look_47 o1 ⟨by omega, by omega⟩ ⟨by omega, by omega⟩ ⟨by omega, by omega⟩ ⟨by omega, by omega⟩ ⟨by omega, by omega⟩ ⟨hV1.k0, (s_MS_many o1 hV1 hG1 hi).mono (fun x M2 h2 => ?_)⟩
        obtain ⟨e2, hx⟩ := h2
        subst e2
        have ec : (mI M2 (s + 23) i + (k : Int)).toNat = (mI M2 (s + 23) i).toNat + k := by omega
        have hik : (k : Int) < mI M2 (s + 23) (i + 1) - mI M2 (s + 23) i := by have : mny M2 s i = mI M2 (s + 23) (i + 1) - mI M2 (s + 23) i := rfl; omega
        rw [hV1.r5, hV1.r6, hV1.n23, hV1.n24, Int.toNat_natCast, ec]
        refine ⟨⟨by omega, by omega⟩, o1, fun z => by omega, fun _ => ⟨hV1.k0, hV1.k23, by omega, hV1.k24, by omega, ?_⟩⟩
        refine (s_MS_may hk9 o1 hV1 hG1 hi).mono (fun y M3 h3 => ?_)
        obtain ⟨e3, hy, hqy⟩ := h3
        subst e3
        refine ⟨⟨by omega, by omega⟩, o1, fun v hv => ?_⟩
        have hr : mI M3 (s + 24) ((mI M3 (s + 23) i).toNat + k) < 2147483648 := by have := (o1 (s + 24) ((mI M3 (s + 23) i).toNat + k)).1; unfold i32 at this; omega
        refine ih2 (k + 1) v (by omega) (by split at hv <;> omega) (by split at hv <;> omega) ⟨fun k' hk' hp => ?_, ?_⟩
        · by_cases z : k' = k
          · subst z
            have hy0 : y ≠ 0 := hqy.2 hp
            split at hv <;> omega
          · have := hD.1 k' (by omega) hp
            split at hv <;> omega
        · split at hv
          · rw [hv]
            rcases hD.2 with u | ⟨k', u1, u2, u3⟩
            · exact Or.inl u
            · exact Or.inr ⟨k', by omega, u2, u3⟩
          · rename_i c9
            exact Or.inr ⟨k, by omega, hqy.1 (fun z => c9 (Or.inl z)), hv.symm⟩
theorem lokX.q {x : Int} (o : mOk M) (h : lokX M s x) : (x = 0 ∨ x = 5 ∨ x = 6) ∧ (x = 0 → lokQ M s) := by
  obtain ⟨e, w, hw, hr⟩ := h
  refine ⟨by rcases hr with ⟨-, y⟩ | ⟨-, -, y⟩ | ⟨-, -, y⟩ <;> omega, fun x0 => ?_⟩
  have hb : sm e (mI M s 1).toNat ≤ 40 ∧ sm w (mI M s 1).toNat ≤ 480 := by
    rcases hr with ⟨-, y⟩ | ⟨-, -, y⟩ | ⟨y1, y2, -⟩
    · omega
    · omega
    · exact ⟨y1, y2⟩
  clear hr
  refine ⟨w, fun i hi => ⟨fun u => ?_, fun u => ((hw i hi).2 u).2⟩, hb.2, ?_⟩
  · obtain ⟨-, D, v, d1, d2, d3, d4, d5⟩ := (hw i hi).1 u
    have D9 : D < 2147483648 := by
      rcases d3 with y | ⟨k, -, -, y⟩
      · omega
      · have q := (o (s + 24) ((mI M (s + 23) i).toNat + k)).1
        unfold i32 at q
        omega
    have v32 : v ≤ 32 := by
      rcases Nat.lt_or_ge 32 v with c | c
      · have q := d4.2 32 c
        have e9 : (2 : Int) ^ 32 = 4294967296 := by decide
        omega
      · exact c
    rw [d5]
    exact ⟨by omega, by omega, D, d1, by rw [Int.toNat_natCast]; exact d4.1, d2⟩
  · rw [sm_congr (g := e) _ (fun i hi => ?_)]
    · exact hb.1
    · show (if unk M s i then (1 : Int) else 0) = e i
      by_cases u : unk M s i
      · rw [if_pos u, ((hw i (by omega)).1 u).1]
      · rw [if_neg u, ((hw i (by omega)).2 u).1]
end VSX
end
section
/-! Kinds of states: a state of no player has no commands. Pure. -/
section KDT
variable {ev : List Int → Nat → Nat → vrs} {stp : List Int → List (Nat × Nat × Nat × Nat) → (Int × Int) × List Int} {sg : List Int} {nb c : Nat} {cm : cm9} {cms : List cm9} {s : sl9}
/-- a state of no player has no commands -/
def kdX (k : Int) (l : List sc9) : Prop := k = 1 ∨ k = 2 ∨ l = []
def kdT (T : xt9) : Prop := ∀ x, x ∈ T → kdX x.1 x.2
def kdS (s : sl9) : Prop := kdX s.2.2.1 s.2.2.2
theorem ite_sl {P : sl9 → Prop} {c : Prop} {_ : Decidable c} {a b : sl9} (ha : P a) (hb : P b) : P (if c then a else b) := by
  split
  · exact ha
  · exact hb
theorem tcq_kd (hc : cm.1 = 1 ∨ cm.1 = 2) (h : kdS s) : kdS (tcq9 ev stp sg nb c cm s) := by
  unfold tcq9
  refine ite_sl (P := kdS) h (ite_sl (P := kdS) h (ite_sl (P := kdS) h (ite_sl (P := kdS) h (ite_sl (P := kdS) h (ite_sl (P := kdS) h ?_)))))
  rcases hc with e | e
  · exact Or.inl e
  · exact Or.inr (Or.inl e)
theorem tsq_kd : ∀ (l : List cm9) (c : Nat) (s : sl9), (∀ cm, cm ∈ l → cm.1 = 1 ∨ cm.1 = 2) → kdS s → kdS (tsq9 ev stp sg nb l c s)
  | [], _, _, _, h => h
  | cm :: r, c, s, hl, h => by
    show kdS (if s.1.1 ≠ 0 then s else tsq9 ev stp sg nb r (c + 1) (tcq9 ev stp sg nb c cm s))
    exact ite_sl (P := kdS) h (tsq_kd r (c + 1) _ (fun x hx => hl x (List.mem_cons_of_mem _ hx)) (tcq_kd (hl cm List.mem_cons_self) h))
theorem ssq_kd {tg : Nat × Nat} {S : List (List Int)} (hl : ∀ cm, cm ∈ cms → cm.1 = 1 ∨ cm.1 = 2) : kdS (ssq9 ev stp tg cms sg nb S) := by
  unfold ssq9
  exact ite_sl (P := kdS) (Or.inr (Or.inr rfl)) (ite_sl (P := kdS) (Or.inr (Or.inr rfl)) (tsq_kd cms 0 _ hl (Or.inr (Or.inr rfl))))
theorem exq_kd {tg : Nat × Nat} (hl : ∀ cm, cm ∈ cms → cm.1 = 1 ∨ cm.1 = 2) : ∀ (f k : Nat) (S : List (List Int)) (T : xt9), kdT T → kdT (exq9 ev stp tg cms f k S T).2.2.2
  | 0, _, _, _, h => h
  | f + 1, k, S, T, h => by
    rw [exq9]
    split
    · exact h
    · rename_i sg _
      split
      · exact fun x hx => absurd hx List.not_mem_nil
      · refine exq_kd hl f (k + 1) _ _ (fun x hx => ?_)
        rcases List.mem_append.mp hx with u | u
        · exact h x u
        · rw [List.mem_singleton.mp u]
          exact ssq_kd (sg := sg) hl
theorem xpl_kd {tg : Nat × Nat} {s0 : List Int} (hl : ∀ cm, cm ∈ cms → cm.1 = 1 ∨ cm.1 = 2) : kdT (xpl9 ev stp tg cms s0).2.2.2 := exq_kd hl 513 0 _ [] (fun x hx => absurd hx List.not_mem_nil)
end KDT
end
section
/-! WITHIN: what within answers. Pure. -/
section WIT
variable {T : xt9} {x x' : Nat → Rat} {n : Nat} {r r' : Int} {f g : Nat → Rat} {mx : Prop}
/-- shares times numbers -/
def wsL9 (x : Nat → Rat) : List (Nat × Int) → Rat
  | [] => 0
  | b :: l => (b.2 : Rat) * x b.1 + wsL9 x l
/-- a command's worth -/
def wr9 (x : Nat → Rat) (c : sc9) : Rat := wsL9 x c.2.2 * (c.2.1 : Rat)⁻¹
/-- the best of the commands 0 to i -/
noncomputable def bst9 (mx : Prop) (f : Nat → Rat) : Nat → Rat
  | 0 => f 0
  | i + 1 => @ite Rat ((mx ∧ bst9 mx f i < f (i + 1)) ∨ (¬ mx ∧ f (i + 1) < bst9 mx f i)) (Classical.propDecidable _) (f (i + 1)) (bst9 mx f i)
theorem bst_cg : ∀ i, (∀ j, j ≤ i → f j = g j) → bst9 mx f i = bst9 mx g i
  | 0, h => h 0 (Nat.le_refl _)
  | i + 1, h => by
    have a := bst_cg i (fun j hj => h j (by omega))
    have b := h (i + 1) (Nat.le_refl _)
    unfold bst9
    rw [a, b]
/-- command i of a state -/
def cq0 (y : Int × List sc9) (i : Nat) : sc9 := y.2.getD i (0, 1, [])
/-- a state's number after one more move -/
noncomputable def stv9 (x : Nat → Rat) (y : Int × List sc9) : Rat := match y.2.length with
  | 0 => if y.1 = 3 then 1 else 0
  | j + 1 => bst9 (y.1 = 1) (fun i => wr9 x (cq0 y i)) j
/-- WITHIN -/
noncomputable def wi9 (T : xt9) : Nat → Nat → Rat
  | 0 => fun k => ((T[k]?).map (fun y => if y.1 = 3 then (1 : Rat) else 0)).getD 0
  | m + 1 => fun k => ((T[k]?).map (fun y => stv9 (wi9 T m) y)).getD 0
/-- a number whose parts have at most 480 bits -/
def ft9 (q : Rat) : Prop := ∃ a b : Int, (0 ≤ a ∧ 0 < b) ∧ (a < 2 ^ 480 ∧ b < 2 ^ 480) ∧ q * (b : Rat) = (a : Rat)
/-- what within answers -/
def anA9 (T : xt9) (n : Nat) (r : Int) : Prop := (r = 0 ∧ ∀ m, m ≤ n → ∀ k, k < T.length → ft9 (wi9 T m k)) ∨ (r = 6 ∧ ∃ m, m ≤ n ∧ ∃ k, k < T.length ∧ ¬ ft9 (wi9 T m k))
theorem anA9.same (h : anA9 T n r) (h' : anA9 T n r') : r = r' := by
  rcases h with ⟨a1, a2⟩ | ⟨a1, m, a2, k, a3, a4⟩
  · rcases h' with ⟨b1, b2⟩ | ⟨b1, m', b2, k', b3, b4⟩
    · rw [a1, b1]
    · exact absurd (a2 m' b2 k' b3) b4
  · rcases h' with ⟨b1, b2⟩ | ⟨b1, m', b2, k', b3, b4⟩
    · exact absurd (b2 m a2 k a3) a4
    · rw [a1, b1]
theorem wsL_cg : ∀ l : List (Nat × Int), (∀ b, b ∈ l → x b.1 = x' b.1) → wsL9 x l = wsL9 x' l
  | [], _ => rfl
  | b :: l, h => by
    show (b.2 : Rat) * x b.1 + wsL9 x l = (b.2 : Rat) * x' b.1 + wsL9 x' l
    rw [h b List.mem_cons_self, wsL_cg l (fun c hc => h c (List.mem_cons_of_mem _ hc))]
theorem wr_cg {c : sc9} (h : ∀ b, b ∈ c.2.2 → x b.1 = x' b.1) : wr9 x c = wr9 x' c := by
  unfold wr9
  rw [wsL_cg c.2.2 h]
theorem cq0_of {y : Int × List sc9} {i : Nat} {c : sc9} (h : y.2[i]? = some c) : cq0 y i = c := by
  unfold cq0
  rw [List.getD_eq_getElem?_getD, h]
  all_goals rfl
/-- no parts of at most 480 bits: those in least terms are longer -/
theorem nft_of {q : Rat} {a b : Int} (e : q * (b : Rat) = (a : Rat)) (a0 : 0 ≤ a) (b0 : 0 < b) (hg : Int.gcd a b = 1) (h : 2 ^ 480 ≤ a ∨ 2 ^ 480 ≤ b) : ¬ ft9 q := by
  rintro ⟨a', b', ⟨c0, c1⟩, ⟨c2, c3⟩, e'⟩
  have x1 : ((a * b' : Int) : Rat) = ((a' * b : Int) : Rat) := by
    rw [Rat.intCast_mul, Rat.intCast_mul, ← e, ← e']
    grind
  have x2 : a * b' = a' * b := by exact_mod_cast x1
  have hc : Nat.Coprime b.natAbs a.natAbs := by
    unfold Nat.Coprime
    rw [Nat.gcd_comm]
    exact hg
  have hd : b.natAbs ∣ a.natAbs * b'.natAbs := by
    rw [← Int.natAbs_mul, x2, Int.natAbs_mul]
    exact Nat.dvd_mul_left _ _
  have d2 : b ∣ b' := Int.natAbs_dvd_natAbs.1 (hc.dvd_of_dvd_mul_left hd)
  obtain ⟨t, ht⟩ := d2
  have t1 : 1 ≤ t := by
    rcases Int.lt_or_le 0 t with u | u
    · omega
    · have w := Int.mul_le_mul_of_nonneg_left u (Int.le_of_lt b0)
      rw [Int.mul_zero, ← ht] at w
      omega
  have s1 : b ≤ b' := by
    have w := Int.mul_le_mul_of_nonneg_left t1 (Int.le_of_lt b0)
    rw [Int.mul_one, ← ht] at w
    exact w
  have x3 : a * t = a' := by
    have w : b * (a * t) = b * a' := by
      rw [Int.mul_comm b a', ← x2, ht]
      grind
    exact Int.eq_of_mul_eq_mul_left (by omega) w
  have s2 : a ≤ a' := by
    have w := Int.mul_le_mul_of_nonneg_left t1 a0
    rw [Int.mul_one, x3] at w
    exact w
  omega
end WIT
end
section
/-! Determinants: by the first row. -/
theorem sm_add {f g : Nat → Int} : ∀ (n : Nat), sm (fun j => f j + g j) n = sm f n + sm g n
  | 0 => rfl
  | n + 1 => by rw [sm, sm, sm, sm_add n]; omega
theorem sm_mul {f : Nat → Int} {x : Int} : ∀ (n : Nat), sm (fun j => x * f j) n = x * sm f n
  | 0 => by simp [sm]
  | n + 1 => by rw [sm, sm, sm_mul n, Int.mul_add]
theorem sm_zero {f : Nat → Int} : ∀ (n : Nat), (∀ j, j < n → f j = 0) → sm f n = 0
  | 0, _ => rfl
  | n + 1, h => by rw [sm, sm_zero n (fun j hj => h j (by omega)), h n (by omega)]; rfl
/-- only two terms, which cancel -/
theorem sm_two {f : Nat → Int} {c : Nat} (h : f c + f (c + 1) = 0) : ∀ (n : Nat), c + 1 < n → (∀ j, j < n → j ≠ c → j ≠ c + 1 → f j = 0) → sm f n = 0
  | 0, hc, _ => by omega
  | n + 1, hc, h0 => by
    rw [sm]
    by_cases q : n = c + 1
    · subst q
      rw [sm, sm_zero c (fun j hj => h0 j (by omega) (by omega) (by omega))]
      omega
    · rw [sm_two h n (by omega) (fun j hj => h0 j (by omega)), h0 n (by omega) (by omega) (by omega)]
      rfl
def sk (j c : Nat) : Nat := if c < j then c else c + 1
def del (j : Nat) (A : Nat → Nat → Int) : Nat → Nat → Int := fun r c => A (r + 1) (sk j c)
def det : Nat → (Nat → Nat → Int) → Int
  | 0, _ => 1
  | n + 1, A => sm (fun j => (-1) ^ j * A 0 j * det n (del j A)) (n + 1)
theorem det_congr : ∀ (n : Nat) {A B : Nat → Nat → Int}, (∀ r c, r < n → c < n → A r c = B r c) → det n A = det n B
  | 0, _, _, _ => rfl
  | n + 1, A, B, h => by
    rw [det, det]
    refine sm_congr (n + 1) (fun j hj => ?_)
    rw [h 0 j (by omega) hj, det_congr n (A := del j A) (B := del j B) (fun r c hr hc => ?_)]
    unfold del sk
    exact h _ _ (by omega) (by split <;> omega)
def rc (A : Nat → Nat → Int) (c : Nat) (v : Nat → Int) : Nat → Nat → Int := fun r k => if k = c then v r else A r k
theorem del_rc_ne {A : Nat → Nat → Int} {c j : Nat} {v : Nat → Int} (h : j ≠ c) : del j (rc A c v) = rc (del j A) (if j < c then c - 1 else c) (fun r => v (r + 1)) := by
  funext r k
  have e : sk j k = c ↔ k = (if j < c then c - 1 else c) := by unfold sk; split <;> split <;> omega
  show (if sk j k = c then v (r + 1) else A (r + 1) (sk j k)) = (if k = (if j < c then c - 1 else c) then v (r + 1) else A (r + 1) (sk j k))
  by_cases q : sk j k = c
  · rw [if_pos q, if_pos (e.1 q)]
  · rw [if_neg q, if_neg (fun w => q (e.2 w))]
theorem del_rc_eq {A : Nat → Nat → Int} {c : Nat} {v : Nat → Int} : del c (rc A c v) = del c A := by
  funext r k
  unfold del rc sk
  rw [if_neg (by split <;> omega)]
theorem det_lin : ∀ (n : Nat) {A : Nat → Nat → Int} {c : Nat} {x : Int} {u w : Nat → Int}, c < n → det n (rc A c (fun r => x * u r + w r)) = x * det n (rc A c u) + det n (rc A c w)
  | 0, _, _, _, _, _, h => by omega
  | n + 1, A, c, x, u, w, h => by
    rw [det, det, det, ← sm_mul, ← sm_add]
    refine sm_congr (n + 1) (fun j hj => ?_)
    by_cases q : j = c
    · subst q
      rw [del_rc_eq, del_rc_eq, del_rc_eq]
      show (-1) ^ j * (if j = j then x * u 0 + w 0 else A 0 j) * _ = x * ((-1) ^ j * (if j = j then u 0 else A 0 j) * _) + (-1) ^ j * (if j = j then w 0 else A 0 j) * _
      rw [if_pos rfl, if_pos rfl, if_pos rfl]
      generalize (-1 : Int) ^ j = s
      generalize det n (del j A) = D
      grind
    · rw [del_rc_ne q, del_rc_ne q, del_rc_ne q]
      show (-1) ^ j * (if j = c then x * u 0 + w 0 else A 0 j) * det n (rc (del j A) (if j < c then c - 1 else c) (fun r => x * u (r + 1) + w (r + 1))) = x * ((-1) ^ j * (if j = c then u 0 else A 0 j) * _) + (-1) ^ j * (if j = c then w 0 else A 0 j) * _
      rw [if_neg q, if_neg q, if_neg q, det_lin n (A := del j A) (u := fun r => u (r + 1)) (w := fun r => w (r + 1)) (by split <;> omega)]
      generalize (-1 : Int) ^ j = s
      generalize det n (rc (del j A) _ (fun r => u (r + 1))) = D
      generalize det n (rc (del j A) _ (fun r => w (r + 1))) = E
      grind
theorem det_adj : ∀ (n : Nat) {A : Nat → Nat → Int} {c : Nat}, c + 1 < n → (∀ r, r < n → A r c = A r (c + 1)) → det n A = 0
  | 0, _, _, h, _ => by omega
  | n + 1, A, c, h, e => by
    rw [det]
    refine sm_two (c := c) ?_ (n + 1) h (fun j hj j1 j2 => ?_)
    · have hd : det n (del c A) = det n (del (c + 1) A) := by
        refine det_congr n (fun r k hr hk => ?_)
        unfold del sk
        by_cases q : k < c
        · rw [if_pos q, if_pos (by omega)]
        · by_cases z : k = c
          · subst z
            rw [if_neg q, if_pos (by omega)]
            exact (e (r + 1) (by omega)).symm
          · rw [if_neg q, if_neg (by omega)]
      rw [hd, e 0 (by omega), Int.pow_succ]
      generalize (-1 : Int) ^ c = s
      generalize det n (del (c + 1) A) = D
      grind
    · have hz : det n (del j A) = 0 := by
        by_cases q : j < c
        · refine det_adj n (c := c - 1) (by omega) (fun r hr => ?_)
          unfold del sk
          rw [if_neg (by omega), if_neg (by omega), show c - 1 + 1 = c by first | rfl | omega]
          exact e (r + 1) (by omega)
        · refine det_adj n (c := c) (by omega) (fun r hr => ?_)
          unfold del sk
          rw [if_pos (by omega), if_pos (by omega)]
          exact e (r + 1) (by omega)
      rw [hz, Int.mul_zero]
end
section
/-! Determinants: Cramer's rule, a bound, the last column. -/
theorem rc_comm {A : Nat → Nat → Int} {c e : Nat} {u w : Nat → Int} (h : c ≠ e) : rc (rc A e w) c u = rc (rc A c u) e w := by
  funext r k
  unfold rc
  by_cases q : k = c
  · rw [if_pos q, if_neg (by omega), if_pos q]
  · rw [if_neg q]
    by_cases z : k = e
    · rw [if_pos z, if_pos z]
    · rw [if_neg z, if_neg z, if_neg q]
theorem rc_self {A : Nat → Nat → Int} {c : Nat} : rc A c (fun r => A r c) = A := by
  funext r k
  unfold rc
  by_cases q : k = c
  · rw [if_pos q, q]
  · rw [if_neg q]
theorem det_add {n : Nat} {A : Nat → Nat → Int} {c : Nat} {u w : Nat → Int} (h : c < n) : det n (rc A c (fun r => u r + w r)) = det n (rc A c u) + det n (rc A c w) := by
  have e := det_lin n (A := A) (c := c) (x := 1) (u := u) (w := w) h
  rw [show (fun r => 1 * u r + w r) = (fun r => u r + w r) from funext (fun r => by first | rfl | omega)] at e
  omega
def sw (A : Nat → Nat → Int) (c : Nat) : Nat → Nat → Int := rc (rc A (c + 1) (fun r => A r c)) c (fun r => A r (c + 1))
theorem det_sw {n : Nat} {A : Nat → Nat → Int} {c : Nat} (h : c + 1 < n) : det n (sw A c) = - det n A := by
  have z : ∀ u : Nat → Int, det n (rc (rc A c u) (c + 1) u) = 0 := fun u => by
    refine det_adj n h (fun r hr => ?_)
    unfold rc
    rw [if_neg (by omega), if_pos rfl, if_pos rfl]
  have C : ∀ u w : Nat → Int, rc (rc A c u) (c + 1) w = rc (rc A (c + 1) w) c u := fun u w => (rc_comm (by omega)).symm
  have L : ∀ w : Nat → Int, det n (rc (rc A c (fun r => A r c + A r (c + 1))) (c + 1) w) = det n (rc (rc A c (fun r => A r c)) (c + 1) w) + det n (rc (rc A c (fun r => A r (c + 1))) (c + 1) w) := fun w => by
    rw [C, C, C]
    exact det_add (by omega)
  have e := z (fun r => A r c + A r (c + 1))
  rw [det_add h, L, L, z, z] at e
  have e1 : rc (rc A c (fun r => A r c)) (c + 1) (fun r => A r (c + 1)) = A := by rw [rc_self, rc_self]
  rw [e1, C] at e
  unfold sw
  omega
theorem det_eq : ∀ (m : Nat) {n : Nat} {A : Nat → Nat → Int} {c : Nat}, c + 1 + m < n → (∀ r, r < n → A r c = A r (c + 1 + m)) → det n A = 0
  | 0, n, A, c, h, e => det_adj n h e
  | m + 1, n, A, c, h, e => by
    have h1 := det_sw (n := n) (A := A) (c := c + 1 + m) (by omega)
    have h2 : det n (sw A (c + 1 + m)) = 0 := by
      refine det_eq m (c := c) (by omega) (fun r hr => ?_)
      unfold sw rc
      rw [if_neg (by omega), if_neg (by omega), if_pos rfl]
      exact e r hr
    omega
theorem det_two {n : Nat} {A : Nat → Nat → Int} {c e : Nat} (hc : c < n) (he : e < n) (hne : c ≠ e) (h : ∀ r, r < n → A r c = A r e) : det n A = 0 := by
  by_cases q : c < e
  · refine det_eq (e - c - 1) (c := c) (by omega) (fun r hr => ?_)
    rw [show c + 1 + (e - c - 1) = e by first | rfl | omega]
    exact h r hr
  · refine det_eq (c - e - 1) (c := e) (by omega) (fun r hr => ?_)
    rw [show e + 1 + (c - e - 1) = c by first | rfl | omega]
    exact (h r hr).symm
theorem cramer {n : Nat} {A : Nat → Nat → Int} {x b : Nat → Int} {c : Nat} (hc : c < n) (h : ∀ r, r < n → sm (fun j => x j * A r j) n = b r) : det n (rc A c b) = x c * det n A := by
  have H : ∀ m, m ≤ n → det n (rc A c (fun r => sm (fun j => x j * A r j) m)) = if c < m then x c * det n A else 0 := by
    intro m
    induction m with
    | zero =>
      intro _
      have e := det_add (n := n) (A := A) (c := c) (u := fun _ => 0) (w := fun _ => 0) hc
      have e0 : det n (rc A c (fun _ => 0)) = 0 := by
        have e1 : det n (rc A c (fun _ => (0 : Int) + 0)) = det n (rc A c (fun _ => 0)) := rfl
        omega
      exact e0
    | succ m ih =>
      intro hm
      have e := det_lin n (A := A) (c := c) (x := x m) (u := fun r => A r m) (w := fun r => sm (fun j => x j * A r j) m) hc
      rw [show (fun r => x m * A r m + sm (fun j => x j * A r j) m) = (fun r => sm (fun j => x j * A r j) (m + 1)) from funext (fun r => by rw [sm]; omega), ih (by omega)] at e
      rw [e]
      by_cases q : m = c
      · subst q
        rw [rc_self, if_neg (by omega), if_pos (by omega)]
        omega
      · have z : det n (rc A c (fun r => A r m)) = 0 := by
          refine det_two hc (show m < n by omega) (fun w => q w.symm) (fun r hr => ?_)
          unfold rc
          rw [if_pos rfl, if_neg q]
        rw [z, Int.mul_zero, Int.zero_add]
        by_cases y : c < m
        · rw [if_pos y, if_pos (by omega)]
        · rw [if_neg y, if_neg (by omega)]
  have e := H n (Nat.le_refl _)
  rw [if_pos hc] at e
  rw [← e]
  refine det_congr n (fun r k hr hk => ?_)
  unfold rc
  by_cases q : k = c
  · rw [if_pos q, if_pos q]
    exact (h r hr).symm
  · rw [if_neg q, if_neg q]
theorem det_last : ∀ (n : Nat) {A : Nat → Nat → Int}, (∀ r, r ≤ n → A r n = if r = n then 1 else 0) → det (n + 1) A = det n A
  | 0, A, h => by
    have e : det 1 A = 0 + (-1) ^ 0 * A 0 0 * 1 := rfl
    rw [e, h 0 (by omega)]
    rfl
  | n + 1, A, h => by
    have e : det (n + 1 + 1) A = sm (fun j => (-1) ^ j * A 0 j * det (n + 1) (del j A)) (n + 1) + (-1) ^ (n + 1) * A 0 (n + 1) * det (n + 1) (del (n + 1) A) := rfl
    have e2 : det (n + 1) A = sm (fun j => (-1) ^ j * A 0 j * det n (del j A)) (n + 1) := rfl
    rw [e, e2, h 0 (by omega), if_neg (by omega), Int.mul_zero, Int.zero_mul, Int.add_zero]
    refine sm_congr (n + 1) (fun j hj => ?_)
    rw [det_last n (A := del j A) (fun r hr => ?_)]
    unfold del sk
    rw [if_neg (by omega), h (r + 1) (by omega)]
    by_cases q : r = n
    · rw [if_pos (by omega), if_pos q]
    · rw [if_neg (by omega), if_neg q]
def pr (f : Nat → Int) : Nat → Int
  | 0 => 1
  | n + 1 => pr f n * f n
theorem pr_shift {f : Nat → Int} : ∀ (n : Nat), pr f (n + 1) = f 0 * pr (fun r => f (r + 1)) n
  | 0 => by simp [pr]
  | n + 1 => by rw [pr, pr_shift n, pr, Int.mul_assoc]
theorem pr_nonneg {f : Nat → Int} : ∀ (n : Nat), (∀ j, j < n → 0 ≤ f j) → 0 ≤ pr f n
  | 0, _ => Int.zero_le_ofNat 1
  | n + 1, h => by rw [pr]; exact Int.mul_nonneg (pr_nonneg n (fun j hj => h j (by omega))) (h n (by omega))
theorem sm_le {f g : Nat → Int} : ∀ (n : Nat), (∀ j, j < n → f j ≤ g j) → sm f n ≤ sm g n
  | 0, _ => by simp [sm]
  | n + 1, h => by
    have := sm_le n (fun j hj => h j (by omega))
    have := h n (by omega)
    rw [sm, sm]
    omega
theorem sm_abs {f : Nat → Int} : ∀ (n : Nat), ((sm f n).natAbs : Int) ≤ sm (fun j => ((f j).natAbs : Int)) n
  | 0 => by simp [sm]
  | n + 1 => by
    have := sm_abs (f := f) n
    rw [sm, sm]
    omega
theorem sm_sk {f : Nat → Int} {j : Nat} : ∀ (n : Nat), j ≤ n → sm (fun k => f (sk j k)) n + f j = sm f (n + 1)
  | 0, h => by
    have e : j = 0 := by omega
    subst e
    rfl
  | n + 1, h => by
    by_cases q : j = n + 1
    · subst q
      show _ + f (n + 1) = sm f (n + 1) + f (n + 1)
      congr 1
      refine sm_congr (n + 1) (fun k hk => ?_)
      unfold sk
      rw [if_pos hk]
    · have e := sm_sk (f := f) (j := j) n (by omega)
      have e1 : sm (fun k => f (sk j k)) (n + 1) = sm (fun k => f (sk j k)) n + f (sk j n) := rfl
      have e2 : sm f (n + 1 + 1) = sm f (n + 1) + f (n + 1) := rfl
      have e3 : f (sk j n) = f (n + 1) := by unfold sk; rw [if_neg (by omega)]
      omega
theorem det_abs : ∀ (n : Nat) {A : Nat → Nat → Int} {R : Nat → Int}, (∀ r, r < n → sm (fun c => ((A r c).natAbs : Int)) n ≤ R r) → ((det n A).natAbs : Int) ≤ pr R n
  | 0, _, _, _ => Int.le_refl 1
  | n + 1, A, R, h => by
    have hs0 : ∀ (f : Nat → Int) (m : Nat), 0 ≤ sm (fun c => ((f c).natAbs : Int)) m := fun f m => by
      have := sm_abs (f := f) m
      omega
    have hR : ∀ r, r < n → 0 ≤ R (r + 1) := fun r hr => by
      have h1 := h (r + 1) (by omega)
      have h2 := hs0 (A (r + 1)) (n + 1)
      omega
    have hP := pr_nonneg (f := fun r => R (r + 1)) n hR
    rw [pr_shift, det]
    refine Int.le_trans (sm_abs (n + 1)) ?_
    have h1 : sm (fun j => (((-1) ^ j * A 0 j * det n (del j A)).natAbs : Int)) (n + 1) ≤ sm (fun j => pr (fun r => R (r + 1)) n * ((A 0 j).natAbs : Int)) (n + 1) := by
      refine sm_le (n + 1) (fun j hj => ?_)
      have hd := det_abs n (A := del j A) (R := fun r => R (r + 1)) (fun r hr => by
        have e := sm_sk (f := fun c => ((A (r + 1) c).natAbs : Int)) (j := j) n (by omega)
        have h2 := h (r + 1) (by omega)
        have h3 : sm (fun c => ((del j A r c).natAbs : Int)) n = sm (fun k => ((A (r + 1) (sk j k)).natAbs : Int)) n := rfl
        omega)
      have hp : ((-1 : Int) ^ j).natAbs = 1 := by rw [Int.natAbs_pow]; simp
      rw [Int.natAbs_mul, Int.natAbs_mul, hp, Nat.one_mul, Int.natCast_mul, Int.mul_comm]
      exact Int.mul_le_mul_of_nonneg_right hd (by omega)
    refine Int.le_trans h1 ?_
    rw [sm_mul, Int.mul_comm]
    exact Int.mul_le_mul_of_nonneg_right (h 0 (by omega)) hP
end
section
/-! Elimination of states, over fractions: what stays true. -/
def sr (f : Nat → Rat) : Nat → Rat
  | 0 => 0
  | n + 1 => sr f n + f n
theorem sr_congr {f g : Nat → Rat} : ∀ (n : Nat), (∀ j, j < n → f j = g j) → sr f n = sr g n
  | 0, _ => rfl
  | n + 1, h => by rw [sr, sr, sr_congr n (fun j hj => h j (by omega)), h n (by omega)]
theorem sr_add {f g : Nat → Rat} : ∀ (n : Nat), sr (fun j => f j + g j) n = sr f n + sr g n
  | 0 => by show (0 : Rat) = 0 + 0; grind
  | n + 1 => by rw [sr, sr, sr, sr_add n]; grind
theorem sr_mul {f : Nat → Rat} {x : Rat} : ∀ (n : Nat), sr (fun j => x * f j) n = x * sr f n
  | 0 => by simp [sr]
  | n + 1 => by rw [sr, sr, sr_mul n]; grind
theorem sr_le {f g : Nat → Rat} : ∀ (n : Nat), (∀ j, j < n → f j ≤ g j) → sr f n ≤ sr g n
  | 0, _ => by simp [sr]
  | n + 1, h => by
    have h1 := sr_le n (fun j hj => h j (by omega))
    have h2 := h n (by omega)
    rw [sr, sr]
    grind
theorem sr_nonneg {f : Nat → Rat} : ∀ (n : Nat), (∀ j, j < n → 0 ≤ f j) → 0 ≤ sr f n
  | 0, _ => by simp [sr]
  | n + 1, h => by
    have h1 := sr_nonneg n (fun j hj => h j (by omega))
    have h2 := h n (by omega)
    rw [sr]
    grind
theorem sr_shift {f : Nat → Rat} : ∀ (n : Nat), sr f (n + 1) = f 0 + sr (fun t => f (t + 1)) n
  | 0 => by show (0 : Rat) + f 0 = f 0 + 0; grind
  | n + 1 => by
    have e : sr f (n + 1 + 1) = sr f (n + 1) + f (n + 1) := rfl
    have e2 : sr (fun t => f (t + 1)) (n + 1) = sr (fun t => f (t + 1)) n + f (n + 1) := rfl
    rw [e, e2, sr_shift n]
    grind
theorem alg1 {a w H Y : Rat} (hw : (1 - a) * w = 1) (h1 : 0 ≤ w * ((1 - a) * H - Y)) : 0 ≤ H - w * Y := by
  have e : H - w * Y = w * ((1 - a) * H - Y) := by grind
  rw [e]
  exact h1
/-- one state is taken out -/
def gst (k : Nat) (q : Nat → Nat → Rat) : Nat → Nat → Rat := fun i j => q i j + q i k * ((1 - q k k)⁻¹ * q k j)
def gq (p : Nat → Nat → Rat) : Nat → Nat → Nat → Rat
  | 0 => p
  | k + 1 => gst k (gq p k)
/-- m states, k of them taken out; h says that each state loses something -/
def gok (m k : Nat) (q : Nat → Nat → Rat) (h : Nat → Rat) : Prop := (∀ i j, i < m → k ≤ j → j ≤ m → 0 ≤ q i j) ∧ (∀ i, i < m → sr (fun t => q i (k + t)) (m + 1 - k) ≤ 1) ∧ (∀ i, i < m → 0 < h i) ∧ (∀ i, i < m → sr (fun t => q i (k + t) * h (k + t)) (m - k) < h i)
theorem gok_pivot {m k : Nat} {q : Nat → Nat → Rat} {h : Nat → Rat} (g : gok m k q h) (hk : k < m) : 0 < 1 - q k k := by
  obtain ⟨g1, g2, g3, g4⟩ := g
  have a := g4 k hk
  rw [show m - k = (m - k - 1) + 1 by first | rfl | omega, sr_shift] at a
  have b : 0 ≤ sr (fun t => q k (k + (t + 1)) * h (k + (t + 1))) (m - k - 1) := sr_nonneg _ (fun t ht => Rat.mul_nonneg (g1 k _ hk (by omega) (by omega)) (Rat.le_of_lt (g3 _ (by omega))))
  have c := g3 k hk
  have e : q k (k + 0) * h (k + 0) = q k k * h k := rfl
  rw [e] at a
  refine Classical.byContradiction (fun w => ?_)
  have d : 0 ≤ (q k k - 1) * h k := Rat.mul_nonneg (by grind) (Rat.le_of_lt c)
  grind
theorem gok_step {m k : Nat} {q : Nat → Nat → Rat} {h : Nat → Rat} (g : gok m k q h) (hk : k < m) : gok m (k + 1) (gst k q) h := by
  have hp := gok_pivot g hk
  obtain ⟨g1, g2, g3, g4⟩ := g
  have hw0 : 0 < (1 - q k k)⁻¹ := Rat.inv_pos.2 hp
  have hw1 : (1 - q k k) * (1 - q k k)⁻¹ = 1 := Rat.mul_inv_cancel _ (by grind)
  have hg : ∀ i j, gst k q i j = q i j + q i k * ((1 - q k k)⁻¹ * q k j) := fun i j => rfl
  generalize (1 - q k k)⁻¹ = w at *
  have hr : ∀ j, k ≤ j → j ≤ m → 0 ≤ w * q k j := fun j h1 h2 => Rat.mul_nonneg (Rat.le_of_lt hw0) (g1 k j hk h1 h2)
  have hk0 : ∀ i, i < m → 0 ≤ q i k := fun i hi => g1 i k hi (by omega) (by omega)
  refine ⟨fun i j hi hj hj2 => ?_, fun i hi => ?_, g3, fun i hi => ?_⟩
  · rw [hg]
    have := g1 i j hi (by omega) hj2
    have := Rat.mul_nonneg (hk0 i hi) (hr j (by omega) hj2)
    grind
  · have e1 : sr (fun t => gst k q i (k + 1 + t)) (m + 1 - (k + 1)) = sr (fun t => q i (k + (t + 1))) (m - k) + q i k * (w * sr (fun t => q k (k + (t + 1))) (m - k)) := by
      rw [← sr_mul, ← sr_mul, ← sr_add, show m + 1 - (k + 1) = m - k by first | rfl | omega]
      refine sr_congr _ (fun t ht => ?_)
      rw [hg, show k + 1 + t = k + (t + 1) by first | rfl | omega]
    have e2 := g2 i hi
    have e3 := g2 k hk
    rw [show m + 1 - k = (m - k) + 1 by first | rfl | omega, sr_shift] at e2 e3
    have e2' : q i (k + 0) = q i k := rfl
    have e3' : q k (k + 0) = q k k := rfl
    rw [e2'] at e2
    rw [e3'] at e3
    rw [e1]
    generalize sr (fun t => q i (k + (t + 1))) (m - k) = X at *
    generalize sr (fun t => q k (k + (t + 1))) (m - k) = Y at *
    have h1 : 0 ≤ w * (1 - q k k - Y) := Rat.mul_nonneg (Rat.le_of_lt hw0) (by grind)
    have h2 : 0 ≤ q i k * (1 - w * Y) := Rat.mul_nonneg (hk0 i hi) (by grind)
    grind
  · have e1 : sr (fun t => gst k q i (k + 1 + t) * h (k + 1 + t)) (m - (k + 1)) = sr (fun t => q i (k + (t + 1)) * h (k + (t + 1))) (m - k - 1) + q i k * (w * sr (fun t => q k (k + (t + 1)) * h (k + (t + 1))) (m - k - 1)) := by
      rw [← sr_mul, ← sr_mul, ← sr_add, show m - (k + 1) = m - k - 1 by first | rfl | omega]
      refine sr_congr _ (fun t ht => ?_)
      rw [hg, show k + 1 + t = k + (t + 1) by first | rfl | omega]
      grind
    have e2 := g4 i hi
    have e3 := g4 k hk
    rw [show m - k = (m - k - 1) + 1 by first | rfl | omega, sr_shift] at e2 e3
    have e2' : q i (k + 0) * h (k + 0) = q i k * h k := rfl
    have e3' : q k (k + 0) * h (k + 0) = q k k * h k := rfl
    rw [e2'] at e2
    rw [e3'] at e3
    rw [e1]
    generalize sr (fun t => q i (k + (t + 1)) * h (k + (t + 1))) (m - k - 1) = X at *
    generalize sr (fun t => q k (k + (t + 1)) * h (k + (t + 1))) (m - k - 1) = Y at *
    have h1 : 0 ≤ w * ((1 - q k k) * h k - Y) := Rat.mul_nonneg (Rat.le_of_lt hw0) (by grind)
    have h2 : 0 ≤ q i k * (h k - w * Y) := Rat.mul_nonneg (hk0 i hi) (alg1 hw1 h1)
    clear g1 g2 g3 g4 hg hr hk0 e1 e2' e3' h1
    grind
theorem gok_all {m : Nat} {p : Nat → Nat → Rat} {h : Nat → Rat} (g : gok m 0 p h) : ∀ k, k ≤ m → gok m k (gq p k) h
  | 0, _ => g
  | k + 1, hk => gok_step (gok_all g k (by omega)) (by omega)
/-- what has been taken out still solves its rows -/
theorem gq_eq {m : Nat} {p : Nat → Nat → Rat} {h : Nat → Rat} (g : gok m 0 p h) : ∀ k, k ≤ m → ∀ i j, gq p k i j = p i j + sr (fun t => p i t * gq p k t j) k
  | 0, _, i, j => by show p i j = p i j + 0; grind
  | k + 1, hk, i, j => by
    have ih := gq_eq g k (by omega)
    have hp := gok_pivot (gok_all g k (by omega)) (by omega)
    have hw1 : (1 - gq p k k k) * (1 - gq p k k k)⁻¹ = 1 := Rat.mul_inv_cancel _ (by grind)
    have hg : ∀ i j, gq p (k + 1) i j = gq p k i j + gq p k i k * ((1 - gq p k k k)⁻¹ * gq p k k j) := fun i j => rfl
    have e1 : sr (fun t => p i t * gq p (k + 1) t j) (k + 1) = sr (fun t => p i t * gq p k t j) k + ((1 - gq p k k k)⁻¹ * gq p k k j) * sr (fun t => p i t * gq p k t k) k + p i k * gq p (k + 1) k j := by
      rw [sr, ← sr_mul, ← sr_add]
      congr 1
      refine sr_congr _ (fun t ht => ?_)
      rw [hg]
      grind
    have e2 := ih i j
    have e3 := ih i k
    rw [e1, hg i j, hg k j]
    generalize sr (fun t => p i t * gq p k t j) k = X at *
    generalize sr (fun t => p i t * gq p k t k) k = Y at *
    generalize (1 - gq p k k k)⁻¹ = w at *
    generalize gq p k k k = a at *
    generalize gq p k k j = b at *
    grind
end
section
/-! Elimination of states: what the fractions are divided by. -/
theorem rat_den (q : Rat) : q * ((q.den : Int) : Rat) = (q.num : Rat) := by
  have h : q = (q.num : Rat) / ((q.den : Int) : Rat) := by
    have := Rat.num_divInt_den q
    rw [Rat.divInt_eq_div] at this
    exact this.symm
  have hp : ((q.den : Int) : Rat) ≠ 0 := by
    have := q.den_pos
    intro w
    have w2 : (q.den : Int) = 0 := by exact_mod_cast w
    omega
  rw [Rat.div_def] at h
  have := Rat.inv_mul_cancel _ hp
  grind
theorem sm_cast {f : Nat → Int} : ∀ (n : Nat), ((sm f n : Int) : Rat) = sr (fun j => (f j : Rat)) n
  | 0 => rfl
  | n + 1 => by rw [sm, sr, Rat.intCast_add, sm_cast n]
theorem com_den (y : Nat → Rat) : ∀ n, ∃ E : Int, 0 < E ∧ ∃ Y : Nat → Int, ∀ c, c < n → y c * (E : Rat) = (Y c : Rat)
  | 0 => ⟨1, by omega, fun _ => 0, fun c hc => by omega⟩
  | n + 1 => by
    obtain ⟨E, h0, Y, hY⟩ := com_den y n
    have hd := (y n).den_pos
    refine ⟨E * ((y n).den : Int), Int.mul_pos h0 (by omega), fun c => if c = n then E * (y n).num else Y c * ((y n).den : Int), fun c hc => ?_⟩
    by_cases q : c = n
    · subst q
      show _ = ((if c = c then E * (y c).num else Y c * ((y c).den : Int) : Int) : Rat)
      rw [if_pos rfl, Rat.intCast_mul, Rat.intCast_mul, ← rat_den (y c)]
      grind
    · show _ = ((if c = n then E * (y n).num else Y c * ((y n).den : Int) : Int) : Rat)
      rw [if_neg q, Rat.intCast_mul, Rat.intCast_mul, ← hY c (by omega)]
      grind
theorem det_zero {n : Nat} {A : Nat → Nat → Int} {c : Nat} (hc : c < n) : det n (rc A c (fun _ => 0)) = 0 := by
  have e := det_add (n := n) (A := A) (c := c) (u := fun _ => 0) (w := fun _ => 0) hc
  have e1 : det n (rc A c (fun _ => (0 : Int) + 0)) = det n (rc A c (fun _ => 0)) := rfl
  omega
theorem det_smul {n : Nat} {A : Nat → Nat → Int} {c : Nat} {x : Int} {u : Nat → Int} (hc : c < n) : det n (rc A c (fun r => x * u r)) = x * det n (rc A c u) := by
  have e := det_lin n (A := A) (c := c) (x := x) (u := u) (w := fun _ => 0) hc
  rw [det_zero hc, Int.add_zero] at e
  rw [← e]
  congr 1
  funext r
  show rc A c (fun r => x * u r) r = rc A c (fun r => x * u r + 0) r
  simp only [Int.add_zero]
theorem cramerR {n : Nat} {A : Nat → Nat → Int} {y : Nat → Rat} {b : Nat → Int} {c : Nat} (hc : c < n) (h : ∀ r, r < n → sr (fun j => y j * (A r j : Rat)) n = (b r : Rat)) : ((det n (rc A c b) : Int) : Rat) = y c * ((det n A : Int) : Rat) := by
  obtain ⟨E, h0, Y, hY⟩ := com_den y n
  have hE : (E : Rat) ≠ 0 := by
    intro w
    have w2 : E = 0 := by exact_mod_cast w
    omega
  have hb : ∀ r, r < n → sm (fun j => Y j * A r j) n = E * b r := fun r hr => by
    have e : ((sm (fun j => Y j * A r j) n : Int) : Rat) = ((E * b r : Int) : Rat) := by
      rw [sm_cast, Rat.intCast_mul, ← h r hr, ← sr_mul]
      refine sr_congr n (fun j hj => ?_)
      rw [Rat.intCast_mul, ← hY j hj]
      grind
    exact_mod_cast e
  have e := cramer hc hb
  rw [det_smul hc] at e
  have e2 : ((E * det n (rc A c b) : Int) : Rat) = ((Y c * det n A : Int) : Rat) := by rw [e]
  rw [Rat.intCast_mul, Rat.intCast_mul, ← hY c hc] at e2
  have e3 := Rat.inv_mul_cancel _ hE
  generalize ((det n (rc A c b) : Int) : Rat) = P at *
  generalize ((det n A : Int) : Rat) = Q at *
  have e4 : (E : Rat)⁻¹ * ((E : Rat) * P) = (E : Rat)⁻¹ * (y c * (E : Rat) * Q) := by rw [e2]
  grind
/-- the rows in whole numbers -/
def bm (N : Nat → Nat → Int) (D : Nat → Int) : Nat → Nat → Int := fun r c => (if r = c then D r else 0) - N r c
theorem sr_pick {r : Nat} {x : Rat} {y : Nat → Rat} : ∀ (n : Nat), sr (fun c => if r = c then x * y c else 0) n = if r < n then x * y r else 0
  | 0 => by show (0 : Rat) = _; rw [if_neg (by omega)]
  | n + 1 => by
    rw [sr, sr_pick n]
    by_cases q : r = n
    · subst q
      rw [if_neg (by omega), if_pos rfl, if_pos (by omega)]
      grind
    · rw [if_neg q]
      by_cases z : r < n
      · rw [if_pos z, if_pos (by omega)]
        grind
      · rw [if_neg z, if_neg (by omega)]
        grind
theorem bm_row {N : Nat → Nat → Int} {D : Nat → Int} {p : Nat → Nat → Rat} {y : Nat → Rat} {r n : Nat} (hp : ∀ c, c < n → (D r : Rat) * p r c = (N r c : Rat)) : sr (fun c => y c * (bm N D r c : Rat)) n = (if r < n then (D r : Rat) * y r else 0) - (D r : Rat) * sr (fun c => p r c * y c) n := by
  have e : sr (fun c => y c * (bm N D r c : Rat)) n = sr (fun c => (if r = c then (D r : Rat) * y c else 0) + (- (D r : Rat)) * (p r c * y c)) n := by
    refine sr_congr n (fun c hc => ?_)
    unfold bm
    have h1 := hp c hc
    by_cases q : r = c
    · rw [if_pos q, if_pos q, Rat.intCast_sub, ← h1]
      grind
    · rw [if_neg q, if_neg q, Rat.intCast_sub, ← h1]
      have : ((0 : Int) : Rat) = 0 := rfl
      grind
  rw [e, sr_add, sr_pick, sr_mul]
  grind
end
section
/-! Elimination of states: the divisor is a determinant, positive and small. -/
section DV
variable {m : Nat} {p : Nat → Nat → Rat} {h : Nat → Rat} {N : Nat → Nat → Int} {D : Nat → Int}
theorem gq_solves (g : gok m 0 p h) (hp : ∀ r c, r < m → c ≤ m → (D r : Rat) * p r c = (N r c : Rat)) {k j r : Nat} (hk : k ≤ m) (hj : j ≤ m) (hr : r < k) : sr (fun c => gq p k c j * (bm N D r c : Rat)) k = (N r j : Rat) := by
  rw [bm_row (p := p) (fun c hc => hp r c (by omega) (by omega)), if_pos hr, ← hp r j (by omega) hj]
  have e := gq_eq g k hk r j
  generalize sr (fun c => p r c * gq p k c j) k = X at *
  grind
theorem det_step (g : gok m 0 p h) (hp : ∀ r c, r < m → c ≤ m → (D r : Rat) * p r c = (N r c : Rat)) {k : Nat} (hk : k < m) : ((det (k + 1) (bm N D) : Int) : Rat) = (1 - gq p k k k) * (D k : Rat) * ((det k (bm N D) : Int) : Rat) := by
  have hpv := gok_pivot (gok_all g k (by omega)) hk
  have hw1 : (1 - gq p k k k) * (1 - gq p k k k)⁻¹ = 1 := Rat.mul_inv_cancel _ (by grind)
  have hb : ∀ r, r < k + 1 → sr (fun c => (if c = k then (1 - gq p k k k)⁻¹ else (1 - gq p k k k)⁻¹ * gq p k c k) * (bm N D r c : Rat)) (k + 1) = (((D k) * (if r = k then 1 else 0) : Int) : Rat) := by
    intro r hr
    rw [bm_row (p := p) (fun c hc => hp r c (by omega) (by omega)), if_pos hr, sr, if_pos rfl]
    have e0 : sr (fun c => p r c * (if c = k then (1 - gq p k k k)⁻¹ else (1 - gq p k k k)⁻¹ * gq p k c k)) k = (1 - gq p k k k)⁻¹ * sr (fun c => p r c * gq p k c k) k := by
      rw [← sr_mul]
      refine sr_congr k (fun c hc => ?_)
      rw [if_neg (by omega)]
      grind
    rw [e0]
    have e1 := gq_eq g k (by omega) r k
    by_cases q : r = k
    · subst q
      rw [if_pos rfl, if_pos rfl, Int.mul_one]
      generalize sr (fun c => p r c * gq p r c r) r = X at *
      generalize hw : (1 - gq p r r r)⁻¹ = w at *
      grind
    · rw [if_neg q, if_neg q, Int.mul_zero]
      have z : ((0 : Int) : Rat) = 0 := rfl
      rw [z]
      generalize sr (fun c => p r c * gq p k c k) k = X at *
      generalize (1 - gq p k k k)⁻¹ = w at *
      grind
  have e := cramerR (n := k + 1) (A := bm N D) (c := k) (by omega) hb
  rw [det_smul (by omega), det_last k (fun r hr => by unfold rc; rw [if_pos rfl]), det_congr k (B := bm N D) (fun r c hr hc => by unfold rc; rw [if_neg (by omega)]), if_pos rfl, Rat.intCast_mul] at e
  generalize ((det (k + 1) (bm N D) : Int) : Rat) = P at *
  generalize ((det k (bm N D) : Int) : Rat) = Q at *
  generalize (1 - gq p k k k)⁻¹ = w at *
  generalize gq p k k k = a at *
  clear hb
  grind
theorem det_pos (g : gok m 0 p h) (hp : ∀ r c, r < m → c ≤ m → (D r : Rat) * p r c = (N r c : Rat)) (hD : ∀ r, r < m → 0 < D r) : ∀ k, k ≤ m → 0 < det k (bm N D)
  | 0, _ => Int.zero_lt_one
  | k + 1, hk => by
    have ih := det_pos g hp hD k (by omega)
    have e := det_step g hp (k := k) (by omega)
    have hpv := gok_pivot (gok_all g k (by omega)) (by omega)
    have h1 : 0 < ((det (k + 1) (bm N D) : Int) : Rat) := by
      rw [e]
      exact Rat.mul_pos (Rat.mul_pos hpv (Rat.intCast_pos.2 (hD k (by omega)))) (Rat.intCast_pos.2 ih)
    exact Rat.intCast_pos.1 h1
/-- the divisor makes whole numbers of what is taken out -/
theorem gq_int (g : gok m 0 p h) (hp : ∀ r c, r < m → c ≤ m → (D r : Rat) * p r c = (N r c : Rat)) {k j i : Nat} (hk : k ≤ m) (hj : j ≤ m) (hi : i < k) : ∃ z : Int, gq p k i j * ((det k (bm N D) : Int) : Rat) = (z : Rat) :=
  ⟨_, (cramerR (A := bm N D) (y := fun c => gq p k c j) (b := fun r => N r j) hi (fun r hr => gq_solves g hp hk hj hr)).symm⟩
theorem sr_int {f : Nat → Rat} : ∀ (n : Nat), (∀ c, c < n → ∃ z : Int, f c = (z : Rat)) → ∃ z : Int, sr f n = (z : Rat)
  | 0, _ => ⟨0, rfl⟩
  | n + 1, h => by
    obtain ⟨a, ha⟩ := sr_int n (fun c hc => h c (by omega))
    obtain ⟨b, hb⟩ := h n (by omega)
    exact ⟨a + b, by rw [sr, ha, hb, Rat.intCast_add]⟩
theorem gq_int2 (g : gok m 0 p h) (hp : ∀ r c, r < m → c ≤ m → (D r : Rat) * p r c = (N r c : Rat)) {k j i : Nat} (hk : k ≤ m) (hj : j ≤ m) (hi : i < m) : ∃ z : Int, gq p k i j * (((D i) * det k (bm N D) : Int) : Rat) = (z : Rat) := by
  have e := gq_eq g k hk i j
  obtain ⟨z, hz⟩ := sr_int (f := fun c => (N i c : Rat) * (gq p k c j * ((det k (bm N D) : Int) : Rat))) k (fun c hc => by
    obtain ⟨z, hz⟩ := gq_int g hp hk hj hc
    exact ⟨N i c * z, by rw [hz, Rat.intCast_mul]⟩)
  refine ⟨N i j * det k (bm N D) + z, ?_⟩
  have e2 : sr (fun c => (N i c : Rat) * (gq p k c j * ((det k (bm N D) : Int) : Rat))) k = ((D i : Rat) * ((det k (bm N D) : Int) : Rat)) * sr (fun c => p i c * gq p k c j) k := by
    rw [← sr_mul]
    refine sr_congr k (fun c hc => ?_)
    rw [← hp i c hi (by omega)]
    grind
  rw [Rat.intCast_add, Rat.intCast_mul, Rat.intCast_mul, ← hz, e2, ← hp i j hi hj]
  generalize sr (fun c => p i c * gq p k c j) k = X at *
  generalize ((det k (bm N D) : Int) : Rat) = Q at *
  grind
theorem sm_pickI {r : Nat} {x : Int} : ∀ (n : Nat), sm (fun c => if r = c then x else 0) n = if r < n then x else 0
  | 0 => by rw [if_neg (by omega)]; rfl
  | n + 1 => by
    rw [sm, sm_pickI n]
    by_cases q : r = n
    · subst q
      rw [if_neg (by omega), if_pos rfl, if_pos (by omega)]
      omega
    · rw [if_neg q]
      by_cases z : r < n
      · rw [if_pos z, if_pos (by omega)]; omega
      · rw [if_neg z, if_neg (by omega)]; rfl
theorem det_small {k : Nat} (hN : ∀ r c, r < k → c < k → 0 ≤ N r c) (hD : ∀ r, r < k → 0 ≤ D r ∧ sm (fun c => N r c) k ≤ D r) : ((det k (bm N D)).natAbs : Int) ≤ pr (fun r => 2 * D r) k := by
  refine det_abs k (fun r hr => ?_)
  have h1 : sm (fun c => ((bm N D r c).natAbs : Int)) k ≤ sm (fun c => (if r = c then D r else 0) + N r c) k := by
    refine sm_le k (fun c hc => ?_)
    have a := hN r c hr hc
    have b := (hD r hr).1
    unfold bm
    split <;> omega
  rw [sm_add, sm_pickI, if_pos hr] at h1
  have h2 : sm (N r) k ≤ D r := (hD r hr).2
  have h3 : sm (fun c => N r c) k = sm (N r) k := rfl
  omega
end DV
end
section
/-! Elimination of states: why each state loses something, and that a bound follows. -/
def pw (t : Rat) : Nat → Rat
  | 0 => 1
  | n + 1 => pw t n * t
theorem pw_pos {t : Rat} (h : 0 < t) : ∀ n, 0 < pw t n
  | 0 => by show (0 : Rat) < 1; grind
  | n + 1 => Rat.mul_pos (pw_pos h n) h
theorem pw_step {t : Rat} (h : 0 < t) (h1 : t ≤ 1) (n : Nat) : pw t (n + 1) ≤ pw t n := by
  have a : 0 ≤ pw t n * (1 - t) := Rat.mul_nonneg (Rat.le_of_lt (pw_pos h n)) (by grind)
  have e : pw t (n + 1) = pw t n * t := rfl
  grind
theorem pw_anti {t : Rat} (h : 0 < t) (h1 : t ≤ 1) {a : Nat} : ∀ (k : Nat), pw t (a + k) ≤ pw t a
  | 0 => by show pw t a ≤ pw t a; grind
  | k + 1 => by
    have h2 := pw_step h h1 (a + k)
    have h3 := pw_anti h h1 (a := a) k
    rw [show a + (k + 1) = a + k + 1 by first | rfl | omega]
    grind
theorem sr_one {f : Nat → Rat} {j : Nat} : ∀ (n : Nat), j < n → (∀ c, c < n → 0 ≤ f c) → f j ≤ sr f n
  | 0, hj, _ => by omega
  | n + 1, hj, h => by
    rw [sr]
    by_cases q : j = n
    · subst q
      have := sr_nonneg j (fun c hc => h c (by omega))
      grind
    · have h1 := sr_one (j := j) n (by omega) (fun c hc => h c (by omega))
      have h2 := h n (by omega)
      grind
theorem alg2 {c z w H : Rat} (e : w * H = 1) (d : 0 ≤ (c - z * w) * H) : z ≤ c * H := by
  have f : (c - z * w) * H = c * H - z * (w * H) := by grind
  rw [f, e] at d
  grind
section CE
variable {m : Nat} {p : Nat → Nat → Rat}
theorem gok0 {h : Nat → Rat} (h0 : ∀ i j, i < m → j ≤ m → 0 ≤ p i j) (h1 : ∀ i, i < m → sr (p i) (m + 1) ≤ 1) (h2 : ∀ i, i < m → 0 < h i) (h3 : ∀ i, i < m → sr (fun j => p i j * h j) m < h i) : gok m 0 p h := by
  refine ⟨fun i j hi _ hj => h0 i j hi hj, fun i hi => ?_, h2, fun i hi => ?_⟩
  · rw [sr_congr (g := p i) _ (fun t ht => by rw [Nat.zero_add])]
    exact h1 i hi
  · rw [sr_congr (g := fun j => p i j * h j) _ (fun t ht => by rw [Nat.zero_add])]
    exact h3 i hi
theorem gok0_h {h : Nat → Rat} (g : gok m 0 p h) {i : Nat} (hi : i < m) : sr (fun j => p i j * h j) m < h i := by
  have a := g.2.2.2 i hi
  rw [sr_congr (g := fun j => p i j * h j) _ (fun t ht => by rw [Nat.zero_add])] at a
  exact a
theorem cert {ρ : Nat → Nat} {u : Rat} (hu : 0 < u) (hu1 : u ≤ 1) (h0 : ∀ i j, i < m → j ≤ m → 0 ≤ p i j) (h1 : ∀ i, i < m → sr (p i) (m + 1) ≤ 1) (hr : ∀ i, i < m → sr (p i) m ≤ 1 - u ∨ ∃ j, j < m ∧ ρ j < ρ i ∧ u ≤ p i j) : ∃ h, gok m 0 p h := by
  have ht : 0 < u / 2 := by grind
  have ht1 : u / 2 ≤ 1 := by grind
  have htu : u / 2 < u := by grind
  generalize u / 2 = t at *
  have hs0 : ∀ n, 0 < pw t n := pw_pos ht
  have hs1 : ∀ n, pw t (n + 1) ≤ t := fun n => by
    have a := pw_anti ht ht1 (a := 1) n
    have e : pw t 1 = 1 * t := rfl
    rw [show 1 + n = n + 1 by first | rfl | omega] at a
    grind
  refine ⟨fun i => 1 - pw t (ρ i + 1), gok0 h0 h1 (fun i hi => ?_) (fun i hi => ?_)⟩
  · have := hs1 (ρ i)
    grind
  · have e : sr (fun j => p i j * (1 - pw t (ρ j + 1))) m = sr (p i) m - sr (fun j => p i j * pw t (ρ j + 1)) m := by
      have e1 : sr (fun j => p i j * (1 - pw t (ρ j + 1))) m = sr (fun j => p i j + (-1) * (p i j * pw t (ρ j + 1))) m := sr_congr m (fun j hj => by grind)
      rw [e1, sr_add, sr_mul]
      have e2 : sr (fun j => p i j) m = sr (p i) m := rfl
      grind
    have hn : ∀ c, c < m → 0 ≤ p i c * pw t (ρ c + 1) := fun c hc => Rat.mul_nonneg (h0 i c hi (by omega)) (Rat.le_of_lt (hs0 _))
    have hsm : sr (p i) m ≤ 1 := by
      have a := h1 i hi
      have b := h0 i m hi (by omega)
      rw [sr] at a
      grind
    show sr (fun j => p i j * (1 - pw t (ρ j + 1))) m < 1 - pw t (ρ i + 1)
    rw [e]
    rcases hr i hi with q | ⟨j, hj, q1, q2⟩
    · have a := sr_nonneg m hn
      have b := hs1 (ρ i)
      grind
    · have a := sr_one m hj hn
      have b : pw t (ρ i + 1) ≤ pw t (ρ j + 1) * t := by
        have c := pw_anti ht ht1 (a := ρ j + 2) (ρ i - ρ j - 1)
        rw [show ρ j + 2 + (ρ i - ρ j - 1) = ρ i + 1 by first | rfl | omega] at c
        exact c
      have c : 0 ≤ (p i j - u) * pw t (ρ j + 1) := Rat.mul_nonneg (by grind) (Rat.le_of_lt (hs0 _))
      have d : 0 < (u - t) * pw t (ρ j + 1) := Rat.mul_pos (by grind) (hs0 _)
      generalize pw t (ρ j + 1) = S at *
      generalize pw t (ρ i + 1) = R at *
      grind
theorem argmax (f : Nat → Rat) : ∀ n, 0 < n → ∃ i, i < n ∧ ∀ j, j < n → f j ≤ f i
  | 0, h => by omega
  | 1, _ => ⟨0, by omega, fun j hj => by rw [show j = 0 by first | rfl | omega]; exact Rat.le_refl⟩
  | n + 2, _ => by
    obtain ⟨i, hi, h⟩ := argmax f (n + 1) (by omega)
    by_cases q : f i ≤ f (n + 1)
    · refine ⟨n + 1, by omega, fun j hj => ?_⟩
      by_cases z : j = n + 1
      · rw [z]; exact Rat.le_refl
      · have := h j (by omega)
        grind
    · refine ⟨i, by omega, fun j hj => ?_⟩
      by_cases z : j = n + 1
      · rw [z]; grind
      · exact h j (by omega)
theorem maxp {h : Nat → Rat} (g : gok m 0 p h) {z : Nat → Rat} (hz : ∀ i, i < m → z i ≤ sr (fun j => p i j * z j) m) : ∀ i, i < m → z i ≤ 0 := by
  intro i0 hi0
  obtain ⟨i, hi, hm⟩ := argmax (fun i => z i * (h i)⁻¹) m (by omega)
  have hh := g.2.2.1
  have hc : ∀ j, j < m → z j ≤ (z i * (h i)⁻¹) * h j := fun j hj => by
    have a := hm j hj
    have b := hh j hj
    have c : (h j)⁻¹ * h j = 1 := Rat.inv_mul_cancel _ (by grind)
    have d : 0 ≤ (z i * (h i)⁻¹ - z j * (h j)⁻¹) * h j := Rat.mul_nonneg (by grind) (Rat.le_of_lt b)
    exact alg2 c d
  have hi1 : (z i * (h i)⁻¹) * h i = z i := by
    have b := hh i hi
    have c : (h i)⁻¹ * h i = 1 := Rat.inv_mul_cancel _ (by grind)
    grind
  generalize hcc : z i * (h i)⁻¹ = c at *
  by_cases q : c ≤ 0
  · have a := hc i0 hi0
    have b := Rat.mul_nonneg (a := -c) (b := h i0) (by grind) (Rat.le_of_lt (hh i0 hi0))
    grind
  · exfalso
    have a := gok0_h g hi
    have b : sr (fun j => p i j * z j) m ≤ sr (fun j => c * (p i j * h j)) m := sr_le m (fun j hj => by
      have x := hc j hj
      have y := Rat.mul_nonneg (a := p i j) (b := c * h j - z j) (g.1 i j hi (by omega) (by omega)) (by grind)
      grind)
    rw [sr_mul] at b
    have d := hz i hi
    have e : 0 < c * (h i - sr (fun j => p i j * h j) m) := Rat.mul_pos (by grind) (by grind)
    grind
end CE
end
section
/-! The value of a fraction of the reference. -/
def fv (M : mM) (f : Nat) : Rat := (sn M f : Rat) * (sd M f : Rat)⁻¹
theorem ic_ne {x : Int} (h : 0 < x) : (x : Rat) ≠ 0 := fun w => by
  have w2 : x = 0 := by exact_mod_cast w
  omega
theorem fv_of {X Y N D : Int} (hY : 0 < Y) (hD : (D : Rat) ≠ 0) (e : X * D = N * Y) : (X : Rat) * (Y : Rat)⁻¹ = (N : Rat) * (D : Rat)⁻¹ := by
  have e1 : (X : Rat) * (D : Rat) = (N : Rat) * (Y : Rat) := by rw [← Rat.intCast_mul, ← Rat.intCast_mul, e]
  have e2 := Rat.mul_inv_cancel _ (ic_ne hY)
  have e3 := Rat.mul_inv_cancel _ hD
  generalize (Y : Rat)⁻¹ = y at *
  generalize (D : Rat)⁻¹ = d at *
  generalize (X : Rat) = x at *
  generalize (N : Rat) = n at *
  generalize (Y : Rat) = Y at *
  generalize (D : Rat) = D at *
  have e4 : x * y * (D * d) = n * d * (Y * y) := by grind
  rw [e3, e2] at e4
  grind
section FV
variable {M M' : mM} {u a b ra rb : Nat}
theorem fv_mul (hA : Fq M a ra) (hB : Fq M b rb) (h : suQ M u (sn M a * sn M b) (sd M a * sd M b) M') : fv M' (u + 1) = fv M a * fv M b := by
  have p1 : 0 < sd M a := hA.2.2.2.2
  have p2 : 0 < sd M b := hB.2.2.2.2
  have p3 : 0 < sd M' (u + 1) := h.2.2.2.1.2.2.2.2
  have e := fv_of p3 (ic_ne (Int.mul_pos p1 p2)) h.2.2.2.2.2
  unfold fv
  rw [e, Rat.intCast_mul, Rat.intCast_mul]
  have e2 := Rat.mul_inv_cancel _ (ic_ne p1)
  have e3 := Rat.mul_inv_cancel _ (ic_ne p2)
  have e4 : ((sd M a : Rat) * (sd M b : Rat))⁻¹ = (sd M a : Rat)⁻¹ * (sd M b : Rat)⁻¹ := by grind
  rw [e4]
  grind
theorem fv_add {m : Int} (hm : m = 0 ∨ m = 1) (hA : Fq M a ra) (hB : Fq M b rb) (h : suQ M u (sn M a * sd M b + (if m = 1 then - (sn M b * sd M a) else sn M b * sd M a)) (sd M a * sd M b) M') : fv M' (u + 1) = if m = 1 then fv M a - fv M b else fv M a + fv M b := by
  have p1 : 0 < sd M a := hA.2.2.2.2
  have p2 : 0 < sd M b := hB.2.2.2.2
  have p3 : 0 < sd M' (u + 1) := h.2.2.2.1.2.2.2.2
  have e := fv_of p3 (ic_ne (Int.mul_pos p1 p2)) h.2.2.2.2.2
  have e2 := Rat.mul_inv_cancel _ (ic_ne p1)
  have e3 := Rat.mul_inv_cancel _ (ic_ne p2)
  have e4 : ((sd M a : Rat) * (sd M b : Rat))⁻¹ = (sd M a : Rat)⁻¹ * (sd M b : Rat)⁻¹ := by grind
  unfold fv
  rw [e, Rat.intCast_mul (sd M a), e4, Rat.intCast_add, Rat.intCast_mul]
  generalize hx : (sd M a : Rat)⁻¹ = x at *
  generalize hy : (sd M b : Rat)⁻¹ = y at *
  rcases hm with q | q
  · rw [if_neg (by omega), if_neg (by omega), Rat.intCast_mul]
    grind
  · rw [if_pos q, if_pos q, Rat.intCast_neg, Rat.intCast_mul]
    grind
theorem fv_set {M : mM} {f : Nat} {j k : Int} (h1 : sn M f = j) (h2 : sd M f = k) : fv M f = (j : Rat) * (k : Rat)⁻¹ := by
  unfold fv
  rw [h1, h2]
/-- in lowest terms: what makes the value whole is a multiple of the bottom -/
theorem fc_dvd {M : mM} {f r : Nat} {E z : Int} (hF : Fq M f r) (hC : Fc M f) (h : fv M f * (E : Rat) = (z : Rat)) : sd M f ∣ E := by
  have p : 0 < sd M f := hF.2.2.2.2
  have e : sn M f * E = z * sd M f := by
    have e1 : ((sn M f * E : Int) : Rat) = ((z * sd M f : Int) : Rat) := by
      rw [Rat.intCast_mul, Rat.intCast_mul, ← h]
      unfold fv
      have e2 := Rat.mul_inv_cancel _ (ic_ne p)
      grind
    exact_mod_cast e1
  have hn := hF.2.1.nonneg
  have e3 : (sn M f).natAbs = xn M (f + 1) := by
    unfold sn xn
    split <;> omega
  have e4 : (sd M f).natAbs = xn M (f + 3) := by
    have : sd M f = wv M (f + 3) := rfl
    unfold xn
    omega
  have hc : Nat.Coprime (sd M f).natAbs (sn M f).natAbs := by
    unfold Nat.Coprime
    rw [e3, e4, Nat.gcd_comm]
    exact hC.1
  have hd : (sd M f).natAbs ∣ (sn M f).natAbs * E.natAbs := by
    rw [← Int.natAbs_mul, e, Int.natAbs_mul]
    exact Nat.dvd_mul_left _ _
  exact Int.natAbs_dvd_natAbs.1 (hc.dvd_of_dvd_mul_left hd)
end FV
end
section
/-! Values: quotients and sizes; the solver's cells. -/
section FV
variable {M M' : mM} {u a b ra rb : Nat}
theorem fv_div (hA : Fq M a ra) (hB : Fq M b rb) (hb : sn M b ≠ 0) (h : suQ M u (sn M a * sd M b) (sd M a * sn M b) M') : fv M' (u + 1) * fv M b = fv M a := by
  have p1 : 0 < sd M a := hA.2.2.2.2
  have p2 : 0 < sd M b := hB.2.2.2.2
  have p3 : 0 < sd M' (u + 1) := h.2.2.2.1.2.2.2.2
  have hbr : (sn M b : Rat) ≠ 0 := fun w => hb (by exact_mod_cast w)
  have hn : ((sd M a * sn M b : Int) : Rat) ≠ 0 := fun w => by
    have w2 : sd M a * sn M b = 0 := by exact_mod_cast w
    rcases Int.mul_eq_zero.1 w2 with q | q
    · omega
    · exact hb q
  have e := fv_of p3 hn h.2.2.2.2.2
  have e2 := Rat.mul_inv_cancel _ (ic_ne p1)
  have e3 := Rat.mul_inv_cancel _ (ic_ne p2)
  have e5 := Rat.mul_inv_cancel _ hbr
  unfold fv
  rw [e, Rat.intCast_mul, Rat.intCast_mul]
  have e4 : ((sd M a : Rat) * (sn M b : Rat))⁻¹ = (sd M a : Rat)⁻¹ * (sn M b : Rat)⁻¹ := by grind
  rw [e4]
  grind
/-- how many parts a fraction in lowest terms takes -/
theorem fc_size {M : mM} {f r k : Nat} {E z : Int} (hF : Fq M f r) (hC : Fc M f) (h : fv M f * (E : Rat) = (z : Rat)) (hE0 : 0 < E) (hE : E < 16777216 ^ k) (hv : sn M f ≤ sd M f) (hv2 : - sd M f ≤ sn M f) : mI M (f + 1) 1 ≤ k ∧ mI M (f + 3) 1 ≤ k := by
  have hd := Int.le_of_dvd hE0 (fc_dvd hF hC h)
  have e1 : sd M f = wv M (f + 3) := rfl
  have hn := hF.2.1.nonneg
  have e2 : wv M (f + 1) ≤ sd M f := by
    unfold sn at hv hv2
    split at hv <;> omega
  exact ⟨hF.2.1.size (by omega), hF.2.2.1.size (by omega)⟩
end FV
/-- the cell of row i, column j -/
abbrev cel (s i j : Nat) : Nat := s + 12868 + 5 * (41 * i + j)
section VS
variable {G : mG} {d s : Nat} {M : mM}
theorem s_MS_cell {i j : Nat} (hi : i < 40) (hj : j < 41) (hO : mOk M) (hV : Vk M s) : Cr G y_MS_cell d [vr s, vi i, vi j] M (fun x M' => M' = M ∧ x = cel s i j) := by
  refine k_MS_cell hO ⟨by omega, by omega⟩ ⟨by omega, by omega⟩ ?_
  rw [hV.r25, hV.n41, show (41 * (i : Int) + (j : Int)).toNat = 41 * i + j by first | rfl | omega, hV.f41 _ (by omega)]
  exact ⟨hV.k0, hV.k41, by omega, rfl, rfl⟩
end VS
end
section
/-! The solver's table of fractions. -/
/-- a value that 56 parts hold -/
def Sml (x : Rat) : Prop := ∃ E z : Int, 0 < E ∧ E < 16777216 ^ 56 ∧ x * (E : Rat) = (z : Rat) ∧ x ≤ 1 ∧ -1 ≤ x
theorem fv_sd {M : mM} {f r : Nat} (hF : Fq M f r) : fv M f * (sd M f : Rat) = (sn M f : Rat) := by
  have p : 0 < sd M f := hF.2.2.2.2
  have e := Rat.mul_inv_cancel _ (ic_ne p)
  unfold fv
  grind
theorem ic_le {x y : Int} (h : (x : Rat) ≤ (y : Rat)) : x ≤ y := by exact_mod_cast h
theorem sml_size {M : mM} {f r : Nat} (hF : Fq M f r) (hC : Fc M f) (h : Sml (fv M f)) : mI M (f + 1) 1 ≤ 56 ∧ mI M (f + 3) 1 ≤ 56 := by
  obtain ⟨E, z, h0, h1, h2, h3, h4⟩ := h
  have p : 0 < sd M f := hF.2.2.2.2
  have pr : (0 : Rat) ≤ (sd M f : Rat) := Rat.le_of_lt (Rat.intCast_pos.2 p)
  have e := fv_sd hF
  have a1 : 0 ≤ (1 - fv M f) * (sd M f : Rat) := Rat.mul_nonneg (by grind) pr
  have a2 : 0 ≤ (1 + fv M f) * (sd M f : Rat) := Rat.mul_nonneg (by grind) pr
  have b1 : sn M f ≤ sd M f := ic_le (by grind)
  have b2 : - sd M f ≤ sn M f := ic_le (by rw [Rat.intCast_neg]; grind)
  exact fc_size hF hC h2 h0 h1 b1 b2
/-- m rows hold A -/
def Tb (M : mM) (s m : Nat) (A : Nat → Nat → Rat) : Prop := ∀ i j, i < m → j ≤ m → Fq M (cel s i j) 56 ∧ Fc M (cel s i j) ∧ fv M (cel s i j) = A i j
theorem fv_out {S : Nat → Prop} {M M' : mM} {f r : Nat} (h : Fq M f r) (k : FI S M M') (hs : ∀ x, S x → x < f ∨ f + 4 < x) : fv M' f = fv M f := by
  have e := h.out k hs
  unfold fv
  rw [e.2.1, e.2.2.1]
theorem Tb.out {S : Nat → Prop} {M M' : mM} {s m : Nat} {A : Nat → Nat → Rat} (h : Tb M s m A) (k : FI S M M') (hs : ∀ x, S x → x < s + 12868) : Tb M' s m A := by
  intro i j hi hj
  obtain ⟨h1, h2, h3⟩ := h i j hi hj
  have hs' : ∀ x, S x → x < cel s i j ∨ cel s i j + 4 < x := fun x q => Or.inl (by have := hs x q; unfold cel; omega)
  exact ⟨(h1.out k hs').1, h2.out h1 k hs', by rw [fv_out h1 k hs', h3]⟩
/-- one cell is written anew -/
theorem Tb.put {M M' : mM} {s m i j : Nat} {A : Nat → Nat → Rat} {v : Rat} (h : Tb M s m A) (hm : m ≤ 40) (hi : i < m) (hj : j ≤ m) (k : FI (fS (cel s i j)) M M') (h1 : Fq M' (cel s i j) 56) (h2 : Fc M' (cel s i j)) (h3 : fv M' (cel s i j) = v) : Tb M' s m (fun a b => if a = i ∧ b = j then v else A a b) := by
  intro a b ha hb
  by_cases q : a = i ∧ b = j
  · obtain ⟨q1, q2⟩ := q
    subst q1 q2
    exact ⟨h1, h2, h3.trans (if_pos ⟨rfl, rfl⟩).symm⟩
  · obtain ⟨g1, g2, g3⟩ := h a b ha hb
    have hs' : ∀ x, fS (cel s i j) x → x < cel s a b ∨ cel s a b + 4 < x := fun x w => by
      have w' : cel s i j ≤ x ∧ x ≤ cel s i j + 4 := w
      unfold cel at w' ⊢
      by_cases z : a = i
      · subst z
        have : b ≠ j := fun y => q ⟨rfl, y⟩
        omega
      · omega
    refine ⟨(g1.out k hs').1, g2.out g1 k hs', ?_⟩
    rw [fv_out g1 k hs', g3]
    exact (if_neg q).symm
/-- the solver's other fractions have room -/
def Wk (M : mM) (s : Nat) : Prop := Sz M (s + 1) ∧ Ft M (s + 42) 8 ∧ Ft M (s + 47) 56 ∧ Ft M (s + 52) 900 ∧ Ft M (s + 57) 900 ∧ Ft M (s + 62) 900
theorem fc_copy {M M' : mM} {a b : Nat} (hC : Fc M b) (e1 : wv M' (a + 1) = wv M (b + 1)) (e2 : wv M' (a + 3) = wv M (b + 3)) (e3 : mI M' a 2 = mI M b 2) : Fc M' a ∧ fv M' a = fv M b := by
  refine ⟨?_, ?_⟩
  · unfold Fc xn at hC ⊢
    rw [e1, e2, e3]
    exact hC
  · unfold fv sn sd
    rw [e1, e2, e3]
end
section
/-! The solver: one row is cleared of a column. -/
abbrev cR (s m : Nat) : Nat → Prop := fun x => s + 12868 ≤ x ∧ x < s + 12868 + 205 * m ∧ (x - (s + 12868)) % 205 < 5 * m + 5
abbrev cS (s m : Nat) : Nat → Prop := fun x => (s + 2 ≤ x ∧ x ≤ s + 21) ∨ (s + 47 ≤ x ∧ x ≤ s + 51) ∨ (s + 57 ≤ x ∧ x ≤ s + 61) ∨ cR s m x
theorem fv_abs {M : mM} {f r : Nat} (hF : Fq M f r) (h1 : fv M f ≤ 1) (h2 : -1 ≤ fv M f) : sn M f ≤ sd M f ∧ - sd M f ≤ sn M f := by
  have p : 0 < sd M f := hF.2.2.2.2
  have pr : (0 : Rat) ≤ (sd M f : Rat) := Rat.le_of_lt (Rat.intCast_pos.2 p)
  have e := fv_sd hF
  have a1 : 0 ≤ (1 - fv M f) * (sd M f : Rat) := Rat.mul_nonneg (by grind) pr
  have a2 : 0 ≤ (1 + fv M f) * (sd M f : Rat) := Rat.mul_nonneg (by grind) pr
  exact ⟨ic_le (by grind), ic_le (by rw [Rat.intCast_neg]; grind)⟩
theorem abs_mul1 {x y : Rat} (h1 : x ≤ 1) (h2 : -1 ≤ x) (h3 : y ≤ 1) (h4 : -1 ≤ y) : x * y ≤ 1 ∧ -1 ≤ x * y := by
  have a := Rat.mul_nonneg (a := 1 - x) (b := 1 + y) (by grind) (by grind)
  have b := Rat.mul_nonneg (a := 1 + x) (b := 1 - y) (by grind) (by grind)
  have c := Rat.mul_nonneg (a := 1 - x) (b := 1 - y) (by grind) (by grind)
  have d := Rat.mul_nonneg (a := 1 + x) (b := 1 + y) (by grind) (by grind)
  constructor <;> grind
theorem Wk.out {S : Nat → Prop} {M M' : mM} {s : Nat} (h : Wk M s) (k : FI S M M') (hz : Sz M' (s + 1)) (hs : ∀ x, S x → x < s + 42 ∨ s + 66 < x) : Wk M' s :=
  ⟨hz, h.2.1.out k (fun x q => by have := hs x q; omega), h.2.2.1.out k (fun x q => by have := hs x q; omega), h.2.2.2.1.out k (fun x q => by have := hs x q; omega), h.2.2.2.2.1.out k (fun x q => by have := hs x q; omega), h.2.2.2.2.2.out k (fun x q => by have := hs x q; omega)⟩
theorem Sz.far {S : Nat → Prop} {M M' : mM} {u : Nat} (h : Sz M u) (k : FI S M M') (hs : ∀ x, S x → x < u ∨ u + 20 < x) : Sz M' u :=
  ⟨h.1.fi k, h.2.1.fi k, h.2.2.1.fi k, fun e he => (h.wh e he).out k (fun q => by
    have h1 : ∀ e ∈ szL, 1 ≤ e ∧ e ≤ 20 := by decide
    have h2 := h1 e he
    have := hs _ q
    omega)⟩
section VS
variable {G : mG} {d s m : Nat} {M : mM} {A : Nat → Nat → Rat}
/-- a product of two small ones takes at most 112 parts -/
theorem mul_size {M M' : mM} {u a b : Nat} (hA : Fq M a 56) (hB : Fq M b 56) (h : suQ M u (sn M a * sn M b) (sd M a * sd M b) M') (x1 : fv M a ≤ 1) (x2 : -1 ≤ fv M a) (y1 : fv M b ≤ 1) (y2 : -1 ≤ fv M b) : mI M' (u + 1 + 1) 1 ≤ 112 ∧ mI M' (u + 1 + 3) 1 ≤ 112 := by
  have e := fv_mul hA hB h
  have p1 : 0 < sd M a := hA.2.2.2.2
  have p2 : 0 < sd M b := hB.2.2.2.2
  have hF := h.2.2.2.1
  have b1 := abs_mul1 x1 x2 y1 y2
  rw [← e] at b1
  have b2 := fv_abs hF b1.1 b1.2
  have l1 : sd M a < 16777216 ^ 56 := Int.lt_of_lt_of_le hA.2.2.1.lt (pow_mono (by have := hA.2.2.1.1.2.2.2.2.2.2; omega))
  have l2 : sd M b < 16777216 ^ 56 := Int.lt_of_lt_of_le hB.2.2.1.lt (pow_mono (by have := hB.2.2.1.1.2.2.2.2.2.2; omega))
  have l3 : sd M a * sd M b < 16777216 ^ 112 := by
    rw [show (16777216 : Int) ^ 112 = 16777216 ^ 56 * 16777216 ^ 56 from Int.pow_add 16777216 56 56]
    exact mul_lt_B l1 l2 (by omega) (by omega)
  refine fc_size hF h.2.2.2.2.1 (E := sd M a * sd M b) (z := sn M a * sn M b) ?_ (Int.mul_pos p1 p2) l3 b2.1 b2.2
  rw [e, Rat.intCast_mul, Rat.intCast_mul, ← fv_sd hA, ← fv_sd hB]
  grind
end VS
end
section
/-! The solver: one row is cleared of a column, the loop. -/
section VS
variable {G : mG} {d s m : Nat} {M : mM} {A : Nat → Nat → Rat}
abbrev ccA (A : Nat → Nat → Rat) (i k j : Nat) : Nat → Nat → Rat := fun a b => if a = i ∧ k ≤ b ∧ b < j then A i b - A i k * A k b else A a b
theorem ccA_step {A : Nat → Nat → Rat} {i k j : Nat} (hj : k ≤ j) : (fun a b => if a = i ∧ b = j then A i j - A i k * A k j else ccA A i k j a b) = ccA A i k (j + 1) := by
  funext a b
  by_cases q : a = i ∧ b = j
  · show (if a = i ∧ b = j then A i j - A i k * A k j else _) = if a = i ∧ k ≤ b ∧ b < j + 1 then A i b - A i k * A k b else A a b
    rw [if_pos q, if_pos ⟨q.1, by omega, by omega⟩, q.2]
  · show (if a = i ∧ b = j then A i j - A i k * A k j else (if a = i ∧ k ≤ b ∧ b < j then A i b - A i k * A k b else A a b)) = if a = i ∧ k ≤ b ∧ b < j + 1 then A i b - A i k * A k b else A a b
    rw [if_neg q]
    by_cases z : a = i ∧ k ≤ b ∧ b < j
    · rw [if_pos z, if_pos ⟨z.1, z.2.1, by omega⟩]
    · rw [if_neg z, if_neg (fun w => z ⟨w.1, w.2.1, by have : b ≠ j := fun y => q ⟨w.1, y⟩; omega⟩)]
theorem s_MS_clearColumn {i k : Nat} (hm : m ≤ 40) (hi : i < m) (hk : k < m) (hik : i ≠ k) (hO : mOk M) (hV : Vk M s) (h24 : mI M s 24 = m) (hW : Wk M s) (hT : Tb M s m A) (hA : ∀ a b, a < m → b ≤ m → A a b ≤ 1 ∧ -1 ≤ A a b) (hS : ∀ b, k ≤ b → b ≤ m → Sml (A i b - A i k * A k b)) :
    Cv G y_MS_clearColumn (d + 5) [vr s, vi i, vi k] M (fun M' => mOk M' ∧ FI (cS s m) M M' ∧ Wk M' s ∧ Tb M' s m (ccA A i k (m + 1))) := by
  have hik0 := hT i k hi (by omega)
  refine k_MS_clearColumn hO ⟨by omega, by omega⟩ ⟨by omega, by omega⟩ ⟨hV.k0, (s_MS_cell (by omega) (by omega) hO hV).mono (fun x M1 h1 => ?_)⟩
  obtain ⟨e1, hx⟩ := h1
  subst e1 hx
  rw [hV.r27]
  refine ⟨hO, hW.2.2.1.1.1, (s_MF_copy hO hW.2.2.1 hik0.1 (by unfold cel; omega) hik0.1.2.1.1.2.2.2.2.2.2 hik0.1.2.2.1.1.2.2.2.2.2.2).mono (fun M2 h2 => ?_)⟩
  obtain ⟨g1, g2, g3, g4, g5, g6⟩ := h2
  have hf := fc_copy hik0.2.1 g4 g5 g6
  refine ⟨g1, ?_⟩
  suffices H : ∀ (n j : Nat) (M2 : mM), j + n = m + 1 → k ≤ j → mOk M2 → FI (cS s m) M1 M2 → Wk M2 s → Fq M2 (s + 47) 56 → fv M2 (s + 47) = A i k → Tb M2 s m (ccA A i k j) → h_MS_clearColumn_15 G (d + 4) s i k j M2 (fun M' => mOk M' ∧ FI (cS s m) M1 M' ∧ Wk M' s ∧ Tb M' s m (ccA A i k (m + 1))) by
    refine H (m + 1 - k) k M2 (by omega) (by omega) g1 (g2.mono (fun x q => by have : s + 47 ≤ x ∧ x ≤ s + 47 + 4 := q; omega)) ⟨hW.1.far g2 (fun x q => by have : s + 47 ≤ x ∧ x ≤ s + 47 + 4 := q; omega), hW.2.1.out g2 (fun x q => by have : s + 47 ≤ x ∧ x ≤ s + 47 + 4 := q; omega), g3.ft, hW.2.2.2.1.out g2 (fun x q => by have : s + 47 ≤ x ∧ x ≤ s + 47 + 4 := q; omega), hW.2.2.2.2.1.out g2 (fun x q => by have : s + 47 ≤ x ∧ x ≤ s + 47 + 4 := q; omega), hW.2.2.2.2.2.out g2 (fun x q => by have : s + 47 ≤ x ∧ x ≤ s + 47 + 4 := q; omega)⟩ g3 (hf.2.trans hik0.2.2) ?_
    have hT2 := hT.out g2 (fun x q => by have : s + 47 ≤ x ∧ x ≤ s + 47 + 4 := q; omega)
    intro a b ha hb
    obtain ⟨t1, t2, t3⟩ := hT2 a b ha hb
    refine ⟨t1, t2, t3.trans ?_⟩
    show A a b = if a = i ∧ k ≤ b ∧ b < k then _ else A a b
    rw [if_neg (by omega)]
  clear hf g6 g5 g4 g3 g2 g1 M2
  intro n
  induction n with
  | zero =>
    intro j M2 hn hkj o2 f2 W2 F2 v2 T2
    have es : mI M2 s = mI M1 s := f2.2.2.2.2.2.2 s (by omega)
    refine k_MS_clearColumn_15 o2 ⟨by omega, by omega⟩ ⟨by omega, by omega⟩ ⟨by omega, by omega⟩ ?_
    rw [es, h24]
    have ej : j = m + 1 := by omega
    rw [ej] at T2
    exact ⟨(hV.fi f2).k0, fun _ => ⟨o2, f2, W2, T2⟩, fun c => by omega⟩
  | succ n ih =>
    intro j M2 hn hkj o2 f2 W2 F2 v2 T2
    have hV2 := hV.fi f2
    have es : mI M2 s = mI M1 s := f2.2.2.2.2.2.2 s (by omega)
    have ck := T2 k j hk (by omega)
    have ci := T2 i j hi (by omega)
    have vk : fv M2 (cel s k j) = A k j := ck.2.2.trans (if_neg (by omega))
    have vi' : fv M2 (cel s i j) = A i j := ci.2.2.trans (if_neg (by omega))
    refine k_MS_clearColumn_15 o2 ⟨by omega, by omega⟩ ⟨by omega, by omega⟩ ⟨by omega, by omega⟩ ?_
    rw [es, h24]
    refine ⟨hV2.k0, fun c => by omega, fun _ => (s_MS_cell (by omega) (by omega) o2 hV2).mono (fun x M3 h3 => ?_)⟩
    obtain ⟨e3, hx⟩ := h3
    subst e3 hx
    refine ⟨o2, ck.1.1.1, (s_MF_isZero o2 ck.1).mono (fun y M4 h4 => ?_)⟩
    obtain ⟨e4, hy⟩ := h4
    subst e4
    refine ⟨⟨by split at hy <;> omega, by split at hy <;> omega⟩, o2, fun c => ⟨hV2.k0, (s_MS_cell (by omega) (by omega) o2 hV2).mono (fun x M5 h5 => ?_)⟩, fun c => ?_⟩
    · obtain ⟨e5, hx⟩ := h5
      subst e5 hx
      rw [hV2.r0, hV2.r27]
      have ak := hA i k hi (by omega)
      have akj := hA k j hk (by omega)
      have z1 := F2.2.1.1.2.2.2.2.2.2
      have z2 := F2.2.2.1.1.2.2.2.2.2.2
      have z3 := ck.1.2.1.1.2.2.2.2.2.2
      have z4 := ck.1.2.2.1.1.2.2.2.2.2.2
      refine ⟨o2, W2.1.1.1, (s_MU_multiply (d := d) o2 W2.1 F2 ck.1 (by omega) (by unfold suO cel; omega) (by omega) (by omega)).mono (fun M6 h6 => ?_)⟩
      have hsz := mul_size F2 ck.1 h6 (by rw [v2]; exact ak.1) (by rw [v2]; exact ak.2) (by rw [vk]; exact akj.1) (by rw [vk]; exact akj.2)
      have hv6 := fv_mul F2 ck.1 h6
      rw [v2, vk] at hv6
      obtain ⟨q1, q2, q3, q4, q5, -⟩ := h6
      have q2' : FI (fun x => s + 2 ≤ x ∧ x ≤ s + 21) M5 M6 := q2.mono (fun x q => by omega)
      have V6 := hV2.fi q2
      have W6 : Wk M6 s := W2.out q2' q3 (fun x q => by omega)
      have F6 := (F2.out q2' (fun x q => by omega)).1
      have v6 : fv M6 (s + 47) = A i k := (fv_out F2 q2' (fun x q => by omega)).trans v2
      have T6 := T2.out q2' (fun x q => by omega)
      refine ⟨q1, V6.k0, ?_⟩
      rw [V6.r0, V6.r29, q3.1.2.1]
      refine ⟨q3.1.1, W6.2.2.2.2.1.1.1, (s_MF_copy q1 W6.2.2.2.2.1 q4 (by omega) (by omega) (by omega)).mono (fun M7 h7 => ?_)⟩
      obtain ⟨r1, r2, r3, r4, r5, r6⟩ := h7
      have hf7 := fc_copy q5 r4 r5 r6
      have r2' : FI (fun x => s + 57 ≤ x ∧ x ≤ s + 61) M6 M7 := r2
      have V7 := V6.fi r2
      have Z7 := q3.far r2' (fun x q => by omega)
      have W7 : Wk M7 s := ⟨Z7, W6.2.1.out r2' (fun x q => by omega), W6.2.2.1.out r2' (fun x q => by omega), W6.2.2.2.1.out r2' (fun x q => by omega), r3.ft, W6.2.2.2.2.2.out r2' (fun x q => by omega)⟩
      have F7 := (F6.out r2' (fun x q => by omega)).1
      have v7 : fv M7 (s + 47) = A i k := (fv_out F6 r2' (fun x q => by omega)).trans v6
      have T7 := T6.out r2' (fun x q => by omega)
      have ci7 := T7 i j hi (by omega)
      have vi7 : fv M7 (cel s i j) = A i j := ci7.2.2.trans (if_neg (by omega))
      have s57 : mI M7 (s + 57 + 1) 1 ≤ 112 := Int.le_trans (r3.2.1.le q4.2.1 (by rw [r4]; omega)) hsz.1
      have s573 : mI M7 (s + 57 + 3) 1 ≤ 112 := Int.le_trans (r3.2.2.1.le q4.2.2.1 (by rw [r5]; omega)) hsz.2
      have z5 := ci7.1.2.1.1.2.2.2.2.2.2
      have z6 := ci7.1.2.2.1.1.2.2.2.2.2.2
      refine ⟨r1, V7.k0, (s_MS_cell (by omega) (by omega) r1 V7).mono (fun x M8 h8 => ?_)⟩
      obtain ⟨e8, hx⟩ := h8
      subst e8 hx
      rw [V7.r0, V7.r29]
      refine ⟨r1, V7.k0, Z7.1.1, (s_MU_add (d := d) (Or.inr rfl) r1 Z7 ci7.1 r3 (by unfold suO cel; omega) (by omega) (by omega) (by omega) (by omega)).mono (fun M9 h9 => ?_)⟩
      have hv9 := fv_add (Or.inr rfl) ci7.1 r3 h9
      rw [if_pos rfl, vi7, hf7.2, hv6] at hv9
      obtain ⟨t1, t2, t3, t4, t5, -⟩ := h9
      have t2' : FI (fun x => s + 2 ≤ x ∧ x ≤ s + 21) M8 M9 := t2.mono (fun x q => by omega)
      have V9 := V7.fi t2
      have W9 : Wk M9 s := W7.out t2' t3 (fun x q => by omega)
      have F9 := (F7.out t2' (fun x q => by omega)).1
      have v9 : fv M9 (s + 47) = A i k := (fv_out F7 t2' (fun x q => by omega)).trans v7
      have T9 := T7.out t2' (fun x q => by omega)
      have ci9 := T9 i j hi (by omega)
      have hsm := sml_size t4 t5 (by rw [hv9]; exact hS j hkj (by omega))
      refine ⟨t1, V9.k0, (s_MS_cell (by omega) (by omega) t1 V9).mono (fun x M10 h10 => ?_)⟩
      obtain ⟨e10, hx⟩ := h10
      subst e10 hx
      rw [V9.r0, t3.1.2.1]
      refine ⟨t1, V9.k0, t3.1.1, ci9.1.1.1, (s_MF_copy t1 ci9.1.ft t4 (by unfold cel; omega) hsm.1 hsm.2).mono (fun M11 h11 => ?_)⟩
      obtain ⟨w1, w2, w3, w4, w5, w6⟩ := h11
      have hf11 := fc_copy t5 w4 w5 w6
      have w2' : FI (cR s m) M10 M11 := w2.mono (fun x q => by have q' : cel s i j ≤ x ∧ x ≤ cel s i j + 4 := q; unfold cel at q'; omega)
      have T11 := T9.put hm hi (by omega) w2 w3 hf11.1 (hf11.2.trans hv9)
      rw [ccA_step hkj] at T11
      have fin := ih (j + 1) M11 (by omega) (by omega) w1 ((((f2.trans (q2'.mono (fun x q => by omega))).trans (r2'.mono (fun x q => by omega))).trans (t2'.mono (fun x q => by omega))).trans (w2'.mono (fun x q => by omega))) (W9.out w2' (t3.far w2' (fun x q => by omega)) (fun x q => by omega)) ((F9.out w2' (fun x q => by omega)).1) ((fv_out F9 w2' (fun x q => by omega)).trans v9) T11
      exact ⟨w1, fin⟩
    · have hz : sn M4 (cel s k j) = 0 := by
        by_cases q : sn M4 (cel s k j) = 0
        · exact q
        · rw [if_neg q] at hy; omega
      have hz2 : A k j = 0 := by
        rw [← vk]
        unfold fv
        rw [hz]
        have : ((0 : Int) : Rat) = 0 := rfl
        grind
      refine ih (j + 1) M4 (by omega) (by omega) o2 f2 W2 F2 v2 ?_
      intro a b ha hb
      obtain ⟨t1, t2, t3⟩ := T2 a b ha hb
      refine ⟨t1, t2, t3.trans ?_⟩
      rw [← ccA_step hkj]
      show _ = if a = i ∧ b = j then A i j - A i k * A k j else ccA A i k j a b
      by_cases q : a = i ∧ b = j
      · rw [if_pos q, hz2]
        obtain ⟨q1, q2⟩ := q
        subst q1 q2
        show (if a = a ∧ k ≤ b ∧ b < b then _ else A a b) = _
        rw [if_neg (by omega)]
        grind
      · rw [if_neg q]
end VS
end
section
/-! The solver: a row is divided by its pivot. -/
section VS
variable {G : mG} {d s m : Nat} {M : mM} {A : Nat → Nat → Rat}
abbrev dvA (A : Nat → Nat → Rat) (k : Nat) (j : Int) : Nat → Nat → Rat := fun a b => if a = k ∧ j < (b : Int) then A k b * (A k k)⁻¹ else A a b
theorem dvA_step {A : Nat → Nat → Rat} {k j : Nat} : (fun a b => if a = k ∧ b = j then A k j * (A k k)⁻¹ else dvA A k j a b) = dvA A k ((j : Int) + (-1)) := by
  funext a b
  show (if a = k ∧ b = j then A k j * (A k k)⁻¹ else (if a = k ∧ (j : Int) < (b : Int) then A k b * (A k k)⁻¹ else A a b)) = if a = k ∧ (j : Int) + (-1) < (b : Int) then A k b * (A k k)⁻¹ else A a b
  by_cases q : a = k ∧ b = j
  · rw [if_pos q, if_pos ⟨q.1, by omega⟩, q.2]
  · rw [if_neg q]
    by_cases z : a = k ∧ (j : Int) < (b : Int)
    · rw [if_pos z, if_pos ⟨z.1, by omega⟩]
    · rw [if_neg z, if_neg (fun w => z ⟨w.1, by have : b ≠ j := fun y => q ⟨w.1, y⟩; omega⟩)]
theorem s_row {k : Nat} {Q : mM → Prop} (hm : m ≤ 40) (hk : k < m) (hO : mOk M) (hV : Vk M s) (hW : Wk M s) (hT : Tb M s m A) (hp : A k k ≠ 0) (hS : ∀ b, k ≤ b → b ≤ m → Sml (A k b * (A k k)⁻¹))
    (hQ : ∀ M', mOk M' → FI (cS s m) M M' → Wk M' s → Tb M' s m (dvA A k ((k : Int) + (-1))) → h_MS_solveRows_63 G (d + 4) s k 0 M' Q) : h_MS_solveRows_15 G (d + 4) s k m M Q := by
  have hT0 : Tb M s m (dvA A k (m : Int)) := by
    intro a b ha hb
    obtain ⟨t1, t2, t3⟩ := hT a b ha hb
    refine ⟨t1, t2, t3.trans ?_⟩
    show A a b = if a = k ∧ (m : Int) < (b : Int) then _ else A a b
    rw [if_neg (by omega)]
  suffices H : ∀ (n : Nat) (j : Int) (M2 : mM), j + 1 = k + n → j ≤ m → mOk M2 → FI (cS s m) M M2 → Wk M2 s → Tb M2 s m (dvA A k j) → h_MS_solveRows_15 G (d + 4) s k j M2 Q from
    H (m + 1 - k) m M (by omega) (by omega) hO FI.refl hW hT0
  intro n
  induction n with
  | zero =>
    intro j M2 hn hj o2 f2 W2 T2
    have ej : j = (k : Int) + (-1) := by omega
    rw [ej] at T2
    exact k_MS_solveRows_15 o2 ⟨by omega, by omega⟩ ⟨by omega, by omega⟩ ⟨fun _ => hQ M2 o2 f2 W2 T2, fun c => by omega⟩
  | succ n ih =>
    intro j0 M2 hn hj o2 f2 W2 T2
    obtain ⟨j, ej⟩ : ∃ j : Nat, j0 = j := ⟨j0.toNat, by omega⟩
    subst ej
    have hV2 := hV.fi f2
    have cj := T2 k j hk (by omega)
    have ck := T2 k k hk (by omega)
    have vj : fv M2 (cel s k j) = A k j := cj.2.2.trans (if_neg (by omega))
    have vk : fv M2 (cel s k k) = A k k := ck.2.2.trans (if_neg (by omega))
    have hnz : sn M2 (cel s k k) ≠ 0 := fun q => hp (by
      rw [← vk]
      unfold fv
      rw [q]
      have : ((0 : Int) : Rat) = 0 := rfl
      grind)
    have z1 := cj.1.2.1.1.2.2.2.2.2.2
    have z2 := cj.1.2.2.1.1.2.2.2.2.2.2
    have z3 := ck.1.2.1.1.2.2.2.2.2.2
    have z4 := ck.1.2.2.1.1.2.2.2.2.2.2
    refine k_MS_solveRows_15 o2 ⟨by omega, by omega⟩ ⟨by omega, by omega⟩ ⟨fun c => by omega, fun _ => ⟨hV2.k0, (s_MS_cell (by omega) (by omega) o2 hV2).mono (fun x M3 h3 => ?_)⟩⟩
    obtain ⟨e3, hx⟩ := h3
    subst e3 hx
    refine ⟨o2, hV2.k0, (s_MS_cell (by omega) (by omega) o2 hV2).mono (fun x M4 h4 => ?_)⟩
    obtain ⟨e4, hx⟩ := h4
    subst e4 hx
    rw [hV2.r0]
    refine ⟨o2, W2.1.1.1, (s_MU_divide1 (d := d) o2 W2.1 cj.1 ck.1 (by unfold suO cel; omega) (by unfold suO cel; omega) hnz (by omega) (by omega)).mono (fun M5 h5 => ?_)⟩
    have hv5 := fv_div cj.1 ck.1 hnz h5
    rw [vj, vk] at hv5
    have hv6 : fv M5 (s + 1 + 1) = A k j * (A k k)⁻¹ := by
      have e := Rat.mul_inv_cancel _ hp
      rw [← hv5]
      grind
    obtain ⟨t1, t2, t3, t4, t5, -⟩ := h5
    have t2' : FI (fun x => s + 2 ≤ x ∧ x ≤ s + 21) M4 M5 := t2.mono (fun x q => by omega)
    have V5 := hV2.fi t2
    have W5 : Wk M5 s := W2.out t2' t3 (fun x q => by omega)
    have T5 := T2.out t2' (fun x q => by omega)
    have cj5 := T5 k j hk (by omega)
    have hsm := sml_size t4 t5 (by rw [hv6]; exact hS j (by omega) (by omega))
    refine ⟨t1, V5.k0, (s_MS_cell (by omega) (by omega) t1 V5).mono (fun x M6 h6 => ?_)⟩
    obtain ⟨e6, hx⟩ := h6
    subst e6 hx
    rw [V5.r0, t3.1.2.1]
    refine ⟨t1, V5.k0, t3.1.1, cj5.1.1.1, (s_MF_copy t1 cj5.1.ft t4 (by unfold cel; omega) hsm.1 hsm.2).mono (fun M7 h7 => ?_)⟩
    obtain ⟨w1, w2, w3, w4, w5, w6⟩ := h7
    have hf7 := fc_copy t5 w4 w5 w6
    have w2' : FI (cR s m) M6 M7 := w2.mono (fun x q => by have q' : cel s k j ≤ x ∧ x ≤ cel s k j + 4 := q; unfold cel at q'; omega)
    have T7 := T5.put hm hk (by omega) w2 w3 hf7.1 (hf7.2.trans hv6)
    rw [dvA_step] at T7
    exact ⟨w1, ih ((j : Int) + (-1)) M7 (by omega) (by omega) w1 ((f2.trans (t2'.mono (fun x q => by omega))).trans (w2'.mono (fun x q => by omega))) (W5.out w2' (t3.far w2' (fun x q => by omega)) (fun x q => by omega)) T7⟩
end VS
end
section
/-! The solver: all other rows are cleared of a column. -/
theorem Tb.congr {M : mM} {s m : Nat} {A B : Nat → Nat → Rat} (h : Tb M s m A) (e : ∀ a b, a < m → b ≤ m → A a b = B a b) : Tb M s m B := by
  intro a b ha hb
  obtain ⟨t1, t2, t3⟩ := h a b ha hb
  exact ⟨t1, t2, t3.trans (e a b ha hb)⟩
section VS
variable {G : mG} {d s m : Nat} {M : mM} {B : Nat → Nat → Rat}
abbrev elA (B : Nat → Nat → Rat) (k i : Nat) : Nat → Nat → Rat := fun a b => if a < i ∧ a ≠ k ∧ k ≤ b then B a b - B a k * B k b else B a b
theorem s_clear {k : Nat} {Q : mM → Prop} (hm : m ≤ 40) (hk : k < m) (hO : mOk M) (hV : Vk M s) (h24 : mI M s 24 = m) (hW : Wk M s) (hT : Tb M s m B) (hB : ∀ a b, a < m → b ≤ m → B a b ≤ 1 ∧ -1 ≤ B a b) (hS : ∀ a b, a < m → a ≠ k → k ≤ b → b ≤ m → Sml (B a b - B a k * B k b))
    (hQ : ∀ M', mOk M' → FI (cS s m) M M' → Wk M' s → Tb M' s m (elA B k m) → h_MS_solveRows_2 G (d + 5) s ((k : Int) + 1) M' Q) : h_MS_solveRows_63 G (d + 5) s k 0 M Q := by
  have hT0 : Tb M s m (elA B k 0) := hT.congr (fun a b ha hb => by
    show B a b = if a < 0 ∧ a ≠ k ∧ k ≤ b then _ else B a b
    rw [if_neg (by omega)])
  suffices H : ∀ (n i : Nat) (M2 : mM), i + n = m → mOk M2 → FI (cS s m) M M2 → Wk M2 s → Tb M2 s m (elA B k i) → h_MS_solveRows_63 G (d + 5) s k i M2 Q from
    H m 0 M (by omega) hO FI.refl hW hT0
  intro n
  induction n with
  | zero =>
    intro i M2 hn o2 f2 W2 T2
    have es : mI M2 s = mI M s := f2.2.2.2.2.2.2 s (by omega)
    have ei : i = m := by omega
    subst ei
    refine k_MS_solveRows_63 o2 ⟨by omega, by omega⟩ ⟨by omega, by omega⟩ ?_
    rw [es, h24]
    exact ⟨(hV.fi f2).k0, fun _ => hQ M2 o2 f2 W2 T2, fun c => by omega⟩
  | succ n ih =>
    intro i M2 hn o2 f2 W2 T2
    have hV2 := hV.fi f2
    have es : mI M2 s = mI M s := f2.2.2.2.2.2.2 s (by omega)
    have hi : i < m := by omega
    have c1 : ∀ b, elA B k i i b = B i b := fun b => if_neg (by omega)
    have c2 : ∀ b, elA B k i k b = B k b := fun b => if_neg (fun w => w.2.1 rfl)
    refine k_MS_solveRows_63 o2 ⟨by omega, by omega⟩ ⟨by omega, by omega⟩ ?_
    rw [es, h24]
    refine ⟨hV2.k0, fun c => by omega, fun _ => ⟨fun c => ih (i + 1) M2 (by omega) o2 f2 W2 (T2.congr (fun a b ha hb => ?_)), fun c => (s_MS_cell (by omega) (by omega) o2 hV2).mono (fun x M3 h3 => ?_)⟩⟩
    · show (if a < i ∧ a ≠ k ∧ k ≤ b then B a b - B a k * B k b else B a b) = if a < i + 1 ∧ a ≠ k ∧ k ≤ b then B a b - B a k * B k b else B a b
      by_cases q : a < i ∧ a ≠ k ∧ k ≤ b
      · rw [if_pos q, if_pos ⟨by omega, q.2⟩]
      · rw [if_neg q, if_neg (by omega)]
    · obtain ⟨e3, hx⟩ := h3
      subst e3 hx
      have hik : i ≠ k := by omega
      have ck := T2 i k hi (by omega)
      refine ⟨o2, ck.1.1.1, (s_MF_isZero o2 ck.1).mono (fun y M4 h4 => ?_)⟩
      obtain ⟨e4, hy⟩ := h4
      subst e4
      have hcc : ∀ a b, a < m → b ≤ m → elA B k i a b ≤ 1 ∧ -1 ≤ elA B k i a b := fun a b ha hb => by
        show (if a < i ∧ a ≠ k ∧ k ≤ b then B a b - B a k * B k b else B a b) ≤ 1 ∧ -1 ≤ (if a < i ∧ a ≠ k ∧ k ≤ b then B a b - B a k * B k b else B a b)
        by_cases q : a < i ∧ a ≠ k ∧ k ≤ b
        · rw [if_pos q]
          obtain ⟨E, z, _, _, _, h5, h6⟩ := hS a b ha q.2.1 q.2.2 hb
          exact ⟨h5, h6⟩
        · rw [if_neg q]
          exact hB a b ha hb
      refine ⟨⟨by split at hy <;> omega, by split at hy <;> omega⟩, o2, fun q => ⟨hV2.k0, ?_⟩, fun q => ?_⟩
      · refine (s_MS_clearColumn (d := d) hm hi hk hik o2 hV2 (by rw [es]; exact h24) W2 T2 hcc (fun b h1 h2 => by rw [c1, c1, c2]; exact hS i b hi hik h1 h2)).mono (fun M5 h5 => ?_)
        obtain ⟨w1, w2, w3, w4⟩ := h5
        refine ⟨w1, ih (i + 1) M5 (by omega) w1 (f2.trans w2) w3 (w4.congr (fun a b ha hb => ?_))⟩
        show (if a = i ∧ k ≤ b ∧ b < m + 1 then elA B k i i b - elA B k i i k * elA B k i k b else elA B k i a b) = if a < i + 1 ∧ a ≠ k ∧ k ≤ b then B a b - B a k * B k b else B a b
        rw [c1, c1, c2]
        by_cases z : a = i ∧ k ≤ b ∧ b < m + 1
        · rw [if_pos z, if_pos (by omega), z.1]
        · rw [if_neg z]
          show (if a < i ∧ a ≠ k ∧ k ≤ b then B a b - B a k * B k b else B a b) = _
          by_cases y : a < i ∧ a ≠ k ∧ k ≤ b
          · rw [if_pos y, if_pos (by omega)]
          · rw [if_neg y, if_neg (by omega)]
      · have hz : B i k = 0 := by
          have hs : sn M4 (cel s i k) = 0 := by
            by_cases w : sn M4 (cel s i k) = 0
            · exact w
            · rw [if_neg w] at hy; omega
          have e := ck.2.2
          rw [c1] at e
          rw [← e]
          unfold fv
          rw [hs]
          have : ((0 : Int) : Rat) = 0 := rfl
          grind
        refine ih (i + 1) M4 (by omega) o2 f2 W2 (T2.congr (fun a b ha hb => ?_))
        show (if a < i ∧ a ≠ k ∧ k ≤ b then B a b - B a k * B k b else B a b) = if a < i + 1 ∧ a ≠ k ∧ k ≤ b then B a b - B a k * B k b else B a b
        by_cases y : a < i ∧ a ≠ k ∧ k ≤ b
        · rw [if_pos y, if_pos (by omega)]
        · rw [if_neg y]
          by_cases z : a < i + 1 ∧ a ≠ k ∧ k ≤ b
          · have : a = i := by omega
            subst this
            rw [if_pos z, hz]
            grind
          · rw [if_neg z]
end VS
end
section
/-! The solver: all pivots. -/
/-- the table after k pivots -/
def tA (p : Nat → Nat → Rat) (m k : Nat) : Nat → Nat → Rat := fun i j => if j = m then gq p k i j else if j < k then (if i = j then 1 else 0) else (if i = j then 1 else 0) - gq p k i j
/-- m equations in m unknowns whose numbers stay small -/
def Sy (m : Nat) (p : Nat → Nat → Rat) (N : Nat → Nat → Int) (D : Nat → Int) : Prop := (∃ h, gok m 0 p h) ∧ (∀ r c, r < m → c ≤ m → (D r : Rat) * p r c = (N r c : Rat)) ∧ (∀ r, r < m → 0 < D r) ∧ (∀ i k, i < m → k ≤ m → D i * det k (bm N D) < 16777216 ^ 56 ∧ det k (bm N D) < 16777216 ^ 21)
section SY
variable {m : Nat} {p : Nat → Nat → Rat} {N : Nat → Nat → Int} {D : Nat → Int}
theorem sml_of {x : Rat} {i k : Nat} (h : Sy m p N D) (hi : i < m) (hk : k ≤ m) (he : ∃ z : Int, x * ((D i * det k (bm N D) : Int) : Rat) = (z : Rat)) (h1 : x ≤ 1) (h2 : -1 ≤ x) : Sml x := by
  obtain ⟨⟨h, g⟩, hp, hD, hE⟩ := h
  obtain ⟨z, hz⟩ := he
  exact ⟨_, z, Int.mul_pos (hD i hi) (det_pos g hp hD k hk), (hE i k hi hk).1, hz, h1, h2⟩
theorem Sy.q01 (h : Sy m p N D) {i j k : Nat} (hi : i < m) (hk : k ≤ j) (hj : j ≤ m) : 0 ≤ gq p k i j ∧ gq p k i j ≤ 1 := by
  obtain ⟨⟨h, g⟩, -⟩ := h
  have g2 := gok_all g k (by omega)
  refine ⟨g2.1 i j hi hk hj, ?_⟩
  have a := g2.2.1 i hi
  have b := sr_one (f := fun t => gq p k i (k + t)) (j := j - k) (m + 1 - k) (by omega) (fun c hc => g2.1 i _ hi (by omega) (by omega))
  have e : gq p k i (k + (j - k)) = gq p k i j := by rw [show k + (j - k) = j by first | rfl | omega]
  have b2 : gq p k i (k + (j - k)) ≤ sr (fun t => gq p k i (k + t)) (m + 1 - k) := b
  rw [e] at b2
  exact Rat.le_trans b2 a
theorem sml_one : Sml 1 := ⟨1, 1, by omega, by decide, by grind, by grind, by grind⟩
theorem sml_zero : Sml 0 := ⟨1, 0, by omega, by decide, by grind, by grind, by grind⟩
theorem tA_sml (h : Sy m p N D) {i j k : Nat} (hi : i < m) (hk : k ≤ m) (hj : j ≤ m) : Sml (tA p m k i j) := by
  unfold tA
  by_cases q : j = m
  · rw [if_pos q]
    have a := h.q01 hi (k := k) (by omega) hj
    obtain ⟨⟨h', g⟩, hp, -⟩ := id h
    exact sml_of h hi hk (gq_int2 g hp hk hj hi) a.2 (by grind)
  · rw [if_neg q]
    by_cases w : j < k
    · rw [if_pos w]
      by_cases e : i = j
      · rw [if_pos e]; exact sml_one
      · rw [if_neg e]; exact sml_zero
    · rw [if_neg w]
      have a := h.q01 hi (k := k) (by omega) hj
      obtain ⟨⟨h', g⟩, hp, -⟩ := id h
      obtain ⟨z, hz⟩ := gq_int2 g hp hk hj hi
      by_cases e : i = j
      · rw [if_pos e]
        refine sml_of h hi hk ⟨D i * det k (bm N D) - z, ?_⟩ (by grind) (by grind)
        rw [Rat.intCast_sub, ← hz]
        grind
      · rw [if_neg e]
        refine sml_of h hi hk ⟨- z, ?_⟩ (by grind) (by grind)
        rw [Rat.intCast_neg, ← hz]
        grind
theorem tA_m {k i : Nat} : tA p m k i m = gq p k i m := if_pos rfl
theorem tA_lt {k i j : Nat} (h : j < k) (h2 : j ≠ m) : tA p m k i j = if i = j then 1 else 0 := by
  unfold tA
  rw [if_neg h2, if_pos h]
theorem tA_ge {k i j : Nat} (h : k ≤ j) (h2 : j ≠ m) : tA p m k i j = (if i = j then 1 else 0) - gq p k i j := by
  unfold tA
  rw [if_neg h2, if_neg (by omega)]
theorem tA_row (h : Sy m p N D) {k b : Nat} (hk : k < m) (h1 : k ≤ b) (h2 : b ≤ m) : tA p m k k b * (tA p m k k k)⁻¹ = tA p m (k + 1) k b := by
  obtain ⟨⟨h', g⟩, -⟩ := h
  have hp := gok_pivot (gok_all g k (by omega)) hk
  have hw1 : (1 - gq p k k k) * (1 - gq p k k k)⁻¹ = 1 := Rat.mul_inv_cancel _ (by grind)
  have e0 : tA p m k k k = 1 - gq p k k k := by rw [tA_ge (by omega) (by omega), if_pos rfl]
  have hg : gq p (k + 1) k b = gq p k k b + gq p k k k * ((1 - gq p k k k)⁻¹ * gq p k k b) := rfl
  rw [e0]
  by_cases q : b = m
  · subst q
    rw [tA_m, tA_m, hg]
    generalize (1 - gq p k k k)⁻¹ = w at *
    grind
  · by_cases z : b = k
    · subst z
      rw [e0, tA_lt (by omega) q, if_pos rfl]
      exact hw1
    · rw [tA_ge (by omega) q, tA_ge (by omega) q, hg, if_neg (by omega)]
      generalize (1 - gq p k k k)⁻¹ = w at *
      grind
theorem tA_el (h : Sy m p N D) {k a b : Nat} (hk : k < m) (ha : a ≠ k) (h1 : k ≤ b) (h2 : b ≤ m) : tA p m k a b - tA p m k a k * tA p m (k + 1) k b = tA p m (k + 1) a b := by
  obtain ⟨⟨h', g⟩, -⟩ := h
  have hp := gok_pivot (gok_all g k (by omega)) hk
  have hw1 : (1 - gq p k k k) * (1 - gq p k k k)⁻¹ = 1 := Rat.mul_inv_cancel _ (by grind)
  have e0 : tA p m k a k = 0 - gq p k a k := by rw [tA_ge (by omega) (by omega), if_neg ha]
  have hg : ∀ i, gq p (k + 1) i b = gq p k i b + gq p k i k * ((1 - gq p k k k)⁻¹ * gq p k k b) := fun i => rfl
  rw [e0]
  by_cases q : b = m
  · subst q
    rw [tA_m, tA_m, tA_m, hg, hg]
    generalize (1 - gq p k k k)⁻¹ = w at *
    grind
  · by_cases z : b = k
    · subst z
      rw [e0, tA_lt (by omega) q, tA_lt (by omega) q, if_pos rfl, if_neg ha]
      grind
    · rw [tA_ge (by omega) q, tA_ge (by omega) q, tA_ge (by omega) q, hg, hg, if_neg (show ¬ k = b by first | rfl | omega)]
      generalize (1 - gq p k k k)⁻¹ = w at *
      by_cases y : a = b
      · rw [if_pos y]
        grind
      · rw [if_neg y]
        grind
theorem sml_b {x : Rat} (h : Sml x) : x ≤ 1 ∧ -1 ≤ x := by
  obtain ⟨E, z, -, -, -, h1, h2⟩ := h
  exact ⟨h1, h2⟩
end SY
section VS
variable {G : mG} {d s m : Nat} {M : mM} {p : Nat → Nat → Rat} {N : Nat → Nat → Int} {D : Nat → Int}
theorem s_MS_solveRows (hm : m ≤ 40) (hO : mOk M) (hV : Vk M s) (h24 : mI M s 24 = m) (hW : Wk M s) (h : Sy m p N D) (hT : Tb M s m (tA p m 0)) :
    Cv G y_MS_solveRows (d + 6) [vr s] M (fun M' => mOk M' ∧ FI (cS s m) M M' ∧ Wk M' s ∧ Tb M' s m (tA p m m)) := by
  refine k_MS_solveRows hO ?_
  suffices H : ∀ (n k : Nat) (M2 : mM), k + n = m → mOk M2 → FI (cS s m) M M2 → Wk M2 s → Tb M2 s m (tA p m k) → h_MS_solveRows_2 G (d + 5) s k M2 (fun M' => mOk M' ∧ FI (cS s m) M M' ∧ Wk M' s ∧ Tb M' s m (tA p m m)) from
    H m 0 M (by omega) hO FI.refl hW hT
  intro n
  induction n with
  | zero =>
    intro k M2 hn o2 f2 W2 T2
    have es : mI M2 s = mI M s := f2.2.2.2.2.2.2 s (by omega)
    have ek : k = m := by omega
    subst ek
    refine k_MS_solveRows_2 o2 ⟨by omega, by omega⟩ ?_
    rw [es, h24]
    exact ⟨(hV.fi f2).k0, fun _ => ⟨o2, f2, W2, T2⟩, fun c => by omega⟩
  | succ n ih =>
    intro k M2 hn o2 f2 W2 T2
    have hV2 := hV.fi f2
    have es : mI M2 s = mI M s := f2.2.2.2.2.2.2 s (by omega)
    have hk : k < m := by omega
    refine k_MS_solveRows_2 o2 ⟨by omega, by omega⟩ ?_
    rw [es, h24]
    refine ⟨hV2.k0, fun c => by omega, fun _ => ?_⟩
    have hpv : tA p m k k k ≠ 0 := by
      obtain ⟨⟨h', g⟩, -⟩ := h
      have hp := gok_pivot (gok_all g k (by omega)) hk
      have e0 : tA p m k k k = 1 - gq p k k k := by
        unfold tA
        rw [if_neg (by omega), if_neg (by omega), if_pos rfl]
      rw [e0]
      grind
    refine s_row (d := d + 1) hm hk o2 hV2 W2 T2 hpv (fun b h1 h2 => by rw [tA_row h hk h1 h2]; exact tA_sml h hk (by omega) h2) (fun M3 o3 f3 W3 T3 => ?_)
    have hB : ∀ a b, a < m → b ≤ m → dvA (tA p m k) k ((k : Int) + (-1)) a b = if a = k then tA p m (k + 1) k b else tA p m k a b := by
      intro a b ha hb
      show (if a = k ∧ (k : Int) + (-1) < (b : Int) then tA p m k k b * (tA p m k k k)⁻¹ else tA p m k a b) = _
      by_cases q : a = k
      · rw [if_pos q]
        by_cases z : k ≤ b
        · rw [if_pos ⟨q, by omega⟩, tA_row h hk z hb]
        · rw [if_neg (by omega), q]
          rw [tA_lt (by omega) (by omega), tA_lt (by omega) (by omega)]
      · rw [if_neg q, if_neg (by omega)]
    have T3' := T3.congr hB
    have es3 : mI M3 s = mI M2 s := f3.2.2.2.2.2.2 s (by omega)
    refine s_clear (d := d) hm hk o3 (hV2.fi f3) (by rw [es3, es, h24]) W3 T3' (fun a b ha hb => ?_) (fun a b ha hak h1 h2 => ?_) (fun M4 o4 f4 W4 T4 => ?_)
    · by_cases q : a = k
      · rw [if_pos q]; exact sml_b (tA_sml h hk (by omega) hb)
      · rw [if_neg q]; exact sml_b (tA_sml h ha (by omega) hb)
    · rw [if_neg hak, if_neg hak, if_pos rfl, tA_el h hk hak h1 h2]
      exact tA_sml h ha (by omega) h2
    · refine ih (k + 1) M4 (by omega) o4 ((f2.trans f3).trans f4) W4 (T4.congr (fun a b ha hb => ?_))
      show (if a < m ∧ a ≠ k ∧ k ≤ b then (if a = k then tA p m (k + 1) k b else tA p m k a b) - (if a = k then tA p m (k + 1) k k else tA p m k a k) * (if k = k then tA p m (k + 1) k b else tA p m k k b) else (if a = k then tA p m (k + 1) k b else tA p m k a b)) = tA p m (k + 1) a b
      by_cases q : a = k
      · rw [if_neg (by omega), if_pos q, q]
      · rw [if_neg q, if_neg q, if_pos rfl]
        by_cases z : k ≤ b
        · rw [if_pos ⟨ha, q, z⟩, tA_el h hk q z hb]
        · rw [if_neg (by omega)]
          rw [tA_lt (by omega) (by omega), tA_lt (by omega) (by omega)]
end VS
end
