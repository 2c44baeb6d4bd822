section
/-! The reference's sums: bring, divide. -/
def Sk (M : mM) (u : Nat) : Prop := mK M u = 18 ∧ mR M u 0 = u + 1 ∧ mR M u 1 = u + 6 ∧ mR M u 2 = u + 11 ∧ mR M u 3 = u + 13 ∧ mR M u 4 = u + 15 ∧ mR M u 5 = u + 17 ∧ mR M u 6 = u + 19
theorem Sk.fi {S : Nat → Prop} {M M' : mM} {u : Nat} (h : Sk M u) (f : FI S M M') : Sk M' u := by
  obtain ⟨f1, f2, f3, -⟩ := f
  unfold Sk at h ⊢
  rw [f1, f3]
  exact h
theorem W3.le {M : mM} {a r : Nat} {M2 : mM} {b r2 : Nat} (h : W3 M a r) (k : W3 M2 b r2) (hv : wv M a ≤ wv M2 b) : mI M a 1 ≤ mI M2 b 1 := by
  have h1 := h.size (k := (mI M2 b 1).toNat) (Int.lt_of_le_of_lt hv k.lt)
  have h2 := k.1.2.2.2.2.2.1
  omega
section SU
variable {G : mG} {d u a b r r2 : Nat} {M : mM}
theorem s_MU_bring {m : Int} (hm : m = 0 ∨ m = 1) (hO : mOk M) (hA : W3 M a r) (hr : mI M a 1 < r) (h3 : 3 ≤ r) : Cv G y_MU_bring (d + 1) [vr a, vi m] M (fun M' => mOk M' ∧ FI (fun x => x = a ∨ x = a + 1) M M' ∧ W3 M' a r ∧ wv M' a = 2 * wv M a + m) := by
  refine k_MU_bring hO ⟨by omega, by omega⟩ ⟨hA.1.1, ?_⟩
  refine (s_MW_isZero hO hA.1).mono (fun x M1 h1 => ?_)
  obtain ⟨e1, e2⟩ := h1
  subst e1
  have hz := hA.zero
  refine ⟨⟨by split at e2 <;> omega, by split at e2 <;> omega⟩, hO, fun hc => ⟨hA.1.1, ?_⟩, fun hc v hv => ⟨hA.1.1, ?_⟩⟩
  · refine (s_MW_twice hm hO hA hr (Or.inr (Or.inr trivial))).mono (fun M2 h2 => ?_)
    exact ⟨h2.1, h2⟩
  · have hv' : v = m := by rw [hv]; rcases hm with q | q <;> simp [q]
    have e0 : wv M1 a = 0 := by rw [← hz]; by_cases z : mI M1 a 1 = 0 <;> simp [z] at e2 <;> omega
    refine (s_MW_set (by omega) (by omega) ⟨by omega, by omega⟩ hO hA.1 h3).mono (fun M2 h2 => ?_)
    obtain ⟨g1, g2, g3, g4⟩ := h2
    exact ⟨g1, g1, g2, g3, by omega⟩
theorem half_pow (A : Int) (n : Nat) : A / 2 ^ (n + 1) = A / 2 ^ n / 2 := by
  have h : (0 : Int) < 2 ^ n := Int.pow_pos (by decide)
  rw [Int.pow_succ, Int.ediv_ediv, if_neg (fun q => by omega)]
  omega
theorem s_MU_divide0 (hO : mOk M) (hS : Sk M u) (hq : Wh M (u + 17) 900) (hs : Wh M (u + 19) 900) (hA : W3 M a r) (hB : W3 M b r2)
    (ha : a + 1 < u + 17 ∨ u + 20 < a) (hb : b + 1 < u + 17 ∨ u + 20 < b) (hb0 : 0 < wv M b) (sa : mI M a 1 < 900) (sb : mI M b 1 < 900) :
    Cv G y_MU_divide0 (d + 2) [vr u, vr a, vr b] M (fun M' => mOk M' ∧ FI (fun x => u + 17 ≤ x ∧ x ≤ u + 20) M M' ∧ W3 M' (u + 17) 900 ∧ W3 M' (u + 19) 900 ∧ wv M' (u + 17) = wv M a / wv M b ∧ wv M' (u + 19) = wv M a % wv M b) := by
  have hS0 := hS
  obtain ⟨s1, s2, s3, s4, s5, s6, s7, s8⟩ := hS
  refine k_MU_divide0 hO ?_
  rw [s7]
  refine ⟨s1, hq.1, (s_MW_set (by omega) (by omega) ⟨by omega, by omega⟩ hO hq (by omega)).mono (fun M1 h1 => ?_)⟩
  obtain ⟨g1, g2, g3, g4⟩ := h1
  have S1 := hS0.fi g2
  have hs1 : Wh M1 (u + 19) 900 := hs.out g2 (by omega)
  refine ⟨g1, ?_⟩
  rw [S1.2.2.2.2.2.2.2]
  refine ⟨S1.1, hs1.1, (s_MW_set (by omega) (by omega) ⟨by omega, by omega⟩ g1 hs1 (by omega)).mono (fun M2 h2 => ?_)⟩
  obtain ⟨k1, k2, k3, k4⟩ := h2
  have S2 := S1.fi k2
  have q2 := g3.out k2 (by omega) (by omega)
  have F2 : FI (fun x => u + 17 ≤ x ∧ x ≤ u + 20) M M2 := (g2.mono (fun x q => by omega)).trans (k2.mono (fun x q => by omega))
  have a2 := hA.out F2 (by omega) (by omega)
  have b2 := hB.out F2 (by omega) (by omega)
  refine ⟨k1, a2.1.1.1, (s_MW_places k1 a2.1).mono (fun x M3 h3 => ?_)⟩
  obtain ⟨e3, p1, p2, p3, p4⟩ := h3
  subst e3
  have r9 : (r : Int) < 100000 := by have := hA.1.2.2.2.2.1; omega
  refine ⟨⟨by omega, by omega⟩, k1, ?_⟩
  suffices H : ∀ (k : Nat) (l : Int) (M1 : mM), l + 1 = k → l < 2400000 → mOk M1 → FI (fun x => u + 17 ≤ x ∧ x ≤ u + 20) M M1 → W3 M1 (u + 17) 900 → W3 M1 (u + 19) 900 → wv M1 (u + 17) * wv M b + wv M1 (u + 19) = wv M a / 2 ^ k → wv M1 (u + 19) < wv M b → h_MU_divide0_23 G (d + 1) u a b l M1 (fun M' => mOk M' ∧ FI (fun x => u + 17 ≤ x ∧ x ≤ u + 20) M M' ∧ W3 M' (u + 17) 900 ∧ W3 M' (u + 19) 900 ∧ wv M' (u + 17) = wv M a / wv M b ∧ wv M' (u + 19) = wv M a % wv M b) by
    refine H x.toNat (x - 1) M3 (by omega) (by omega) k1 F2 q2.1 k3 ?_ (by omega)
    rw [q2.2, g4, k4, Int.ediv_eq_zero_of_lt hA.nonneg (by rw [← a2.2]; exact p3)]
    omega
  clear p1 p2 p3 p4 k3 k4 k2 k1 q2 a2 b2 S2 F2 g4 g3 g2 g1 S1 hs1 hs hq s2 s3 s4 s5 s6 s7 s8 s1
  intro k
  induction k with
  | zero =>
    intro l M1 hk hl hO1 F1 W1 W2 hv hlt
    refine k_MU_divide0_23 hO1 ⟨by omega, by omega⟩ ⟨fun _ => ⟨hO1, F1, W1, W2, ?_⟩, fun c => by omega⟩
    have h0 := W2.nonneg
    have e : wv M a = wv M1 (u + 17) * wv M b + wv M1 (u + 19) := by rw [hv]; simp
    rw [e]
    rw [Int.add_comm, Int.add_mul_ediv_right _ _ (by omega), Int.ediv_eq_zero_of_lt h0 hlt, Int.add_mul_emod_self_right, Int.emod_eq_of_lt h0 hlt]
    omega
  | succ k ih =>
    intro l M1 hk hl hO1 F1 W1 W2 hv hlt
    have S1 := hS0.fi F1
    obtain ⟨A1, ea⟩ := hA.out F1 (by omega) (by omega)
    obtain ⟨B1, eb⟩ := hB.out F1 (by omega) (by omega)
    have hlk : l.toNat = k := by omega
    refine k_MU_divide0_23 hO1 ⟨by omega, by omega⟩ ⟨fun c => by omega, fun _ => ⟨S1.1, A1.1.1, (s_MW_bit (by omega) ⟨by omega, by omega⟩ hO1 A1).mono (fun x M2 h2 => ?_)⟩⟩
    obtain ⟨e2, hx⟩ := h2
    subst e2
    have hx01 : x = 0 ∨ x = 1 := by split at hx <;> omega
    refine ⟨⟨by omega, by omega⟩, hO1, ?_⟩
    rw [S1.2.2.2.2.2.2.2]
    have sr : mI M2 (u + 19) 1 ≤ mI M2 b 1 := W2.le B1 (by omega)
    have zb : mI M2 b 1 = mI M b 1 := by rw [F1.2.2.2.2.2.2 b (by omega)]
    have za : mI M2 a 1 = mI M a 1 := by rw [F1.2.2.2.2.2.2 a (by omega)]
    refine (s_MU_bring hx01 hO1 W2 (by omega) (by omega)).mono (fun M3 h3 => ?_)
    obtain ⟨g1, g2, g3, g4⟩ := h3
    have S3 := S1.fi g2
    obtain ⟨Q3, eq3⟩ := W1.out g2 (by omega) (by omega)
    obtain ⟨B3, eb3⟩ := B1.out g2 (by omega) (by omega)
    refine ⟨g1, ?_⟩
    rw [S3.2.2.2.2.2.2.2]
    refine ⟨S3.1, g3.1.1, (s_MW_compare g1 g3 B3).mono (fun y M4 h4 => ?_)⟩
    obtain ⟨e4, hy⟩ := h4
    subst e4
    have F3 : FI (fun x => u + 17 ≤ x ∧ x ≤ u + 20) M M4 := F1.trans (g2.mono (fun x q => by omega))
    have hhalf := half_pow (wv M a) k
    rw [hhalf] at hv
    rw [ea, hlk] at hx
    have nq := W1.nonneg
    have nr := W2.nonneg
    have hXx : wv M a / 2 ^ k = 2 * (wv M a / 2 ^ k / 2) + x := by
      split at hx <;> omega
    have hXA : wv M a / 2 ^ k ≤ wv M a := Int.ediv_le_self _ hA.nonneg
    have hqA : wv M2 (u + 17) ≤ wv M a := by
      have : wv M2 (u + 17) * 1 ≤ wv M2 (u + 17) * wv M b := Int.mul_le_mul_of_nonneg_left (by omega) nq
      have : 0 ≤ wv M a / 2 ^ k := Int.ediv_nonneg hA.nonneg (Int.le_of_lt (Int.pow_pos (by decide)))
      omega
    have sq : mI M4 (u + 17) 1 ≤ mI M a 1 := Q3.le hA (by omega)
    refine ⟨⟨by split at hy <;> (try split at hy) <;> omega, by split at hy <;> (try split at hy) <;> omega⟩, g1, fun v hv31 => ⟨fun c => ⟨S3.1, ?_⟩, fun c => ⟨S3.1, by rw [S3.2.2.2.2.2.2.2]; exact g3.1.1, ?_⟩⟩⟩
    · rw [S3.2.2.2.2.2.2.1]
      have hyn : y < 0 := by split at hv31 <;> omega
      have hlt3 : wv M4 (u + 19) < wv M b := by
        split at hy
        · omega
        · split at hy <;> omega
      rw [c]
      refine (s_MU_bring (Or.inl rfl) g1 Q3 (by omega) (by omega)).mono (fun M5 h5 => ?_)
      obtain ⟨k1, k2, k3, k4⟩ := h5
      obtain ⟨R5, er5⟩ := g3.out k2 (by omega) (by omega)
      refine ⟨k1, ih (l + (-1)) M5 (by omega) (by omega) k1 (F3.trans (k2.mono (fun x q => by omega))) k3 R5 ?_ (by omega)⟩
      rw [k4, er5, g4, eq3, hXx, ← hv, Int.add_zero, Int.mul_assoc]
      omega
    · have hyn : ¬ y < 0 := by split at hv31 <;> omega
      have hge3 : wv M4 b ≤ wv M4 (u + 19) := by
        split at hy
        · omega
        · split at hy <;> omega
      have hv1 : v = 1 := by split at hv31 <;> omega
      rw [S3.2.2.2.2.2.2.2]
      refine (s_MW_less g1 g3 B3 (by omega) hge3).mono (fun M5 h5 => ?_)
      obtain ⟨k1, k2, k3, k4⟩ := h5
      obtain ⟨Q5, eq5⟩ := Q3.out k2 (by omega) (by omega)
      have S5 := S3.fi k2
      have zq : mI M5 (u + 17) 1 = mI M4 (u + 17) 1 := by rw [k2.2.2.2.2.2.2 (u + 17) (by omega)]
      refine ⟨k1, S5.1, ?_⟩
      rw [S5.2.2.2.2.2.2.1, hv1]
      refine (s_MU_bring (Or.inr rfl) k1 Q5 (by omega) (by omega)).mono (fun M6 h6 => ?_)
      obtain ⟨m1, m2, m3, m4⟩ := h6
      obtain ⟨R6, er6⟩ := k3.out m2 (by omega) (by omega)
      refine ⟨m1, ih (l + (-1)) M6 (by omega) (by omega) m1 ((F3.trans (k2.mono (fun x q => by omega))).trans (m2.mono (fun x q => by omega))) m3 R6 ?_ (by omega)⟩
      rw [m4, er6, k4, g4, eq5, eq3, hXx, ← hv, Int.add_mul, Int.mul_assoc]
      omega
end SU
end
section
/-! The reference's sums: the greatest common divisor. -/
def xn (M : mM) (a : Nat) : Nat := (wv M a).toNat
theorem xn_eq {M : mM} {a r : Nat} (h : W3 M a r) : (xn M a : Int) = wv M a := by
  have := h.nonneg
  unfold xn
  omega
theorem g_two {x y : Nat} (hx : x % 2 = 0) (hy : y % 2 = 0) : Nat.gcd x y = 2 * Nat.gcd (x / 2) (y / 2) := by
  have h := Nat.gcd_mul_left 2 (x / 2) (y / 2)
  rw [show 2 * (x / 2) = x by omega, show 2 * (y / 2) = y by omega] at h
  exact h
theorem g_odd {x y : Nat} (hx : x % 2 = 0) (hy : y % 2 = 1) : Nat.gcd (x / 2) y = Nat.gcd x y := by
  have hc : Nat.Coprime 2 y := by
    unfold Nat.Coprime
    rw [Nat.gcd_rec, hy]; rfl
  have h := Nat.Coprime.gcd_mul_left_cancel (x / 2) hc
  rw [show 2 * (x / 2) = x by omega] at h
  exact h.symm
theorem g_sub {x y : Nat} (h : x ≤ y) : Nat.gcd x (y - x) = Nat.gcd x y := by
  have e := Nat.gcd_add_self_right (m := x) (n := y - x)
  rw [show y - x + x = y by omega] at e
  exact e.symm
section SU
variable {G : mG} {d u : Nat} {M : mM}
abbrev gcS (u : Nat) : Nat → Prop := fun x => u + 11 ≤ x ∧ x ≤ u + 16
abbrev gcQ (M : mM) (u X Y : Nat) : mM → Prop := fun M' => mOk M' ∧ FI (gcS u) M M' ∧ W3 M' (u + 11) 900 ∧ W3 M' (u + 13) 900 ∧ Wh M' (u + 15) 900 ∧ wv M' (u + 11) = Nat.gcd X Y
abbrev gcI (M : mM) (u X Y : Nat) (M1 : mM) (l : Int) : Prop := mOk M1 ∧ FI (gcS u) M M1 ∧ W3 M1 (u + 11) 900 ∧ W3 M1 (u + 13) 900 ∧ Wh M1 (u + 15) 900 ∧ 0 < xn M1 (u + 11) ∧ 0 ≤ l ∧ l ≤ 21600 ∧ 2 ^ l.toNat * Nat.gcd (xn M1 (u + 11)) (xn M1 (u + 13)) = Nat.gcd X Y
theorem gcI.ok {M M1 : mM} {u X Y : Nat} {l : Int} (h : gcI M u X Y M1 l) : mOk M1 := h.1
theorem gcI.fi {M M1 : mM} {u X Y : Nat} {l : Int} (h : gcI M u X Y M1 l) : FI (gcS u) M M1 := h.2.1
theorem gcI.wx {M M1 : mM} {u X Y : Nat} {l : Int} (h : gcI M u X Y M1 l) : W3 M1 (u + 11) 900 := h.2.2.1
theorem gcI.wy {M M1 : mM} {u X Y : Nat} {l : Int} (h : gcI M u X Y M1 l) : W3 M1 (u + 13) 900 := h.2.2.2.1
theorem gcI.wz {M M1 : mM} {u X Y : Nat} {l : Int} (h : gcI M u X Y M1 l) : Wh M1 (u + 15) 900 := h.2.2.2.2.1
theorem gcI.px {M M1 : mM} {u X Y : Nat} {l : Int} (h : gcI M u X Y M1 l) : 0 < xn M1 (u + 11) := h.2.2.2.2.2.1
theorem gcI.l0 {M M1 : mM} {u X Y : Nat} {l : Int} (h : gcI M u X Y M1 l) : 0 ≤ l := h.2.2.2.2.2.2.1
theorem gcI.l1 {M M1 : mM} {u X Y : Nat} {l : Int} (h : gcI M u X Y M1 l) : l ≤ 21600 := h.2.2.2.2.2.2.2.1
theorem gcI.eq {M M1 : mM} {u X Y : Nat} {l : Int} (h : gcI M u X Y M1 l) : 2 ^ l.toNat * Nat.gcd (xn M1 (u + 11)) (xn M1 (u + 13)) = Nat.gcd X Y := h.2.2.2.2.2.2.2.2
theorem gcI_155 {X Y N : Nat} (hS : Sk M u) (hN : (Nat.gcd X Y : Int) < 16777216 ^ N) (hN9 : N < 900) : ∀ (k : Nat) (l m : Int) (M1 : mM), l - m = k → 0 ≤ m → l ≤ 21600 → mOk M1 → FI (gcS u) M M1 → W3 M1 (u + 11) 900 → W3 M1 (u + 13) 900 → Wh M1 (u + 15) 900 → 2 ^ k * xn M1 (u + 11) = Nat.gcd X Y → h_MU_common_155 G d u l m M1 (gcQ M u X Y) := by
  intro k
  induction k with
  | zero =>
    intro l m M1 hk h0 h1 hO1 F1 W1 W2 W4 he
    refine k_MU_common_155 hO1 ⟨by omega, by omega⟩ ⟨by omega, by omega⟩ ⟨fun _ => ⟨hO1, F1, W1, W2, W4, ?_⟩, fun c => by omega⟩
    have := xn_eq W1
    omega
  | succ k ih =>
    intro l m M1 hk h0 h1 hO1 F1 W1 W2 W4 he
    have S1 := hS.fi F1
    have ex := xn_eq W1
    have hle : xn M1 (u + 11) ≤ Nat.gcd X Y := by
      rw [← he]
      exact Nat.le_mul_of_pos_left _ (Nat.pow_pos (by decide))
    have hsz := W1.size (k := N) (by omega)
    refine k_MU_common_155 hO1 ⟨by omega, by omega⟩ ⟨by omega, by omega⟩ ⟨fun c => by omega, fun _ => ?_⟩
    rw [S1.2.2.2.1]
    refine ⟨S1.1, W1.1.1, (s_MW_twice (Or.inl rfl) hO1 W1 (by omega) (Or.inr (Or.inr trivial))).mono (fun M2 h2 => ?_)⟩
    obtain ⟨g1, g2, g3, g4⟩ := h2
    refine ⟨g1, ih l (m + 1) M2 (by omega) (by omega) h1 g1 (F1.trans (g2.mono (fun x q => by omega))) g3 (W2.out g2 (by omega) (by omega)).1 (W4.out g2 (by omega)) ?_⟩
    have e2 := xn_eq g3
    rw [← he, Nat.pow_succ, Nat.mul_assoc]
    congr 1
    omega
theorem gcI_62 {X Y N : Nat} (hS : Sk M u) (hN : (Nat.gcd X Y : Int) < 16777216 ^ N) (hN9 : N < 900) {M1 : mM} {l : Int} (h : gcI M u X Y M1 l) (hn : 0 < xn M1 (u + 13) → h_MU_common_72 G d u l M1 (gcQ M u X Y)) : h_MU_common_62 G d u l M1 (gcQ M u X Y) := by
  have S1 := hS.fi h.fi
  have ey := xn_eq h.wy
  have hz := h.wy.zero
  have hl0 := h.l0
  have hl1 := h.l1
  refine k_MU_common_62 h.ok ⟨by omega, by omega⟩ ?_
  rw [S1.2.2.2.2.1]
  refine ⟨S1.1, h.wy.1.1, (s_MW_isZero h.ok h.wy.1).mono (fun x M2 h2 => ?_)⟩
  obtain ⟨e2, hx⟩ := h2
  subst e2
  refine ⟨⟨by split at hx <;> omega, by split at hx <;> omega⟩, h.ok, fun c => hn ?_, fun c => ?_⟩
  · have := h.wy.nonneg
    by_cases z : mI M2 (u + 13) 1 = 0
    · rw [if_pos z] at hx
      omega
    · have : wv M2 (u + 13) ≠ 0 := fun q => z (hz.2 q)
      omega
  · have z : mI M2 (u + 13) 1 = 0 := Classical.byContradiction (fun z => by rw [if_neg z] at hx; omega)
    have e0 : xn M2 (u + 13) = 0 := by have := hz.1 z; omega
    refine gcI_155 hS hN hN9 l.toNat l 0 M2 (by omega) (by omega) hl1 h.ok h.fi h.wx h.wy h.wz ?_
    have := h.eq
    rw [e0, Nat.gcd_zero_right] at this
    exact this
theorem gcI_72 {X Y N : Nat} (hS : Sk M u) (hN : (Nat.gcd X Y : Int) < 16777216 ^ N) (hN9 : N < 900) : ∀ (n : Nat) (M1 : mM) (l : Int), gcI M u X Y M1 l → xn M1 (u + 11) % 2 = 1 → 0 < xn M1 (u + 13) → xn M1 (u + 11) + xn M1 (u + 13) ≤ n → h_MU_common_72 G (d + 1) u l M1 (gcQ M u X Y) := by
  intro n
  induction n with
  | zero => intro M1 l h ho hy hs; omega
  | succ n ih =>
    intro M1 l h ho hy hs
    have S1 := hS.fi h.fi
    have ex := xn_eq h.wx
    have ey := xn_eq h.wy
    have hl0 := h.l0
    have hl1 := h.l1
    refine k_MU_common_72 h.ok ⟨by omega, by omega⟩ ?_
    rw [S1.2.2.2.2.1]
    refine ⟨S1.1, h.wy.1.1, (s_MW_isOdd h.ok h.wy).mono (fun x M2 h2 => ?_)⟩
    obtain ⟨e2, hx⟩ := h2
    subst e2
    rw [S1.2.2.2.2.1, S1.2.2.2.1]
    refine ⟨⟨by split at hx <;> omega, by split at hx <;> omega⟩, h.ok, fun c => ⟨S1.1, h.wy.1.1, (s_MW_halve h.ok h.wy).mono (fun M3 h3 => ?_)⟩, fun c => ⟨S1.1, h.wx.1.1, (s_MW_compare h.ok h.wx h.wy).mono (fun y M3 h3 => ?_)⟩⟩
    · obtain ⟨g1, g2, g3, g4⟩ := h3
      have e3 := xn_eq g3
      have hx3 := h.wx.out g2 (by omega) (by omega)
      have exx : xn M3 (u + 11) = xn M2 (u + 11) := by unfold xn; rw [hx3.2]
      have hyy : xn M3 (u + 13) = xn M2 (u + 13) / 2 := by omega
      have hev : xn M2 (u + 13) % 2 = 0 := by split at hx <;> omega
      refine ⟨g1, ih M3 l ⟨g1, h.fi.trans (g2.mono (fun x q => by omega)), hx3.1, g3, h.wz.out g2 (by omega), by have := h.px; omega, hl0, hl1, ?_⟩ (by omega) (by omega) (by omega)⟩
      rw [exx, hyy, Nat.gcd_comm, g_odd hev ho, Nat.gcd_comm]
      exact h.eq
    · obtain ⟨e3, hc⟩ := h3
      subst e3
      have hod : xn M3 (u + 13) % 2 = 1 := by
        split at hx
        · omega
        · omega
      have hpx := h.px
      rw [S1.2.2.2.2.1, S1.2.2.2.1, S1.2.2.2.2.2.1]
      refine ⟨⟨by split at hc <;> (try split at hc) <;> omega, by split at hc <;> (try split at hc) <;> omega⟩, h.ok, fun q => ⟨S1.1, h.wy.1.1, ?_⟩, fun q => ⟨S1.1, h.wz.1, ?_⟩⟩
      · have hle : wv M3 (u + 11) ≤ wv M3 (u + 13) := by
          split at hc
          · omega
          · split at hc <;> omega
        refine (s_MW_less h.ok h.wy h.wx (by omega) hle).mono (fun M4 h4 => ?_)
        obtain ⟨g1, g2, g3, g4⟩ := h4
        have e3 := xn_eq g3
        have hx3 := h.wx.out g2 (by omega) (by omega)
        have exx : xn M4 (u + 11) = xn M3 (u + 11) := by unfold xn; rw [hx3.2]
        have hyy : xn M4 (u + 13) = xn M3 (u + 13) - xn M3 (u + 11) := by omega
        have hI : gcI M u X Y M4 l := ⟨g1, h.fi.trans (g2.mono (fun x q => by omega)), hx3.1, g3, h.wz.out g2 (by omega), by omega, hl0, hl1, by rw [exx, hyy, g_sub (by omega)]; exact h.eq⟩
        exact ⟨g1, gcI_62 hS hN hN9 hI (fun hp => ih M4 l hI (by omega) hp (by omega))⟩
      · have hgt : wv M3 (u + 13) < wv M3 (u + 11) := by
          split at hc
          · omega
          · split at hc <;> omega
        refine (s_MW_copy h.ok h.wz h.wx (by omega) h.wx.1.2.2.2.2.2.2).mono (fun M4 h4 => ?_)
        obtain ⟨g1, g2, g3, g4⟩ := h4
        have S4 := S1.fi g2
        obtain ⟨x4, vx4⟩ := h.wx.out g2 (by omega) (by omega)
        obtain ⟨y4, vy4⟩ := h.wy.out g2 (by omega) (by omega)
        refine ⟨g1, ?_⟩
        rw [S4.2.2.2.2.1, S4.2.2.2.1]
        refine ⟨S4.1, x4.1.1, (s_MW_copy g1 x4.1 y4 (by omega) y4.1.2.2.2.2.2.2).mono (fun M5 h5 => ?_)⟩
        obtain ⟨k1, k2, k3, k4⟩ := h5
        have S5 := S4.fi k2
        obtain ⟨z5, vz5⟩ := g3.out k2 (by omega) (by omega)
        obtain ⟨y5, vy5⟩ := y4.out k2 (by omega) (by omega)
        refine ⟨k1, ?_⟩
        rw [S5.2.2.2.2.1, S5.2.2.2.2.2.1]
        refine ⟨S5.1, y5.1.1, (s_MW_copy k1 y5.1 z5 (by omega) z5.1.2.2.2.2.2.2).mono (fun M6 h6 => ?_)⟩
        obtain ⟨m1, m2, m3, m4⟩ := h6
        have S6 := S5.fi m2
        obtain ⟨z6, vz6⟩ := z5.out m2 (by omega) (by omega)
        obtain ⟨x6, vx6⟩ := k3.out m2 (by omega) (by omega)
        refine ⟨m1, ?_⟩
        rw [S6.2.2.2.2.1, S6.2.2.2.1]
        refine ⟨S6.1, m3.1.1, (s_MW_less m1 m3 x6 (by omega) (by omega)).mono (fun M7 h7 => ?_)⟩
        obtain ⟨n1, n2, n3, n4⟩ := h7
        obtain ⟨z7, vz7⟩ := z6.out n2 (by omega) (by omega)
        obtain ⟨x7, vx7⟩ := x6.out n2 (by omega) (by omega)
        have e7 := xn_eq n3
        have e8 := xn_eq x7
        have exx : xn M7 (u + 11) = xn M3 (u + 13) := by omega
        have hyy : xn M7 (u + 13) = xn M3 (u + 11) - xn M3 (u + 13) := by omega
        have hI : gcI M u X Y M7 l := ⟨n1, (((h.fi.trans (g2.mono (fun x q => by omega))).trans (k2.mono (fun x q => by omega))).trans (m2.mono (fun x q => by omega))).trans (n2.mono (fun x q => by omega)), x7, n3, z7.1, by omega, hl0, hl1, by rw [exx, hyy, g_sub (by omega), Nat.gcd_comm]; exact h.eq⟩
        exact ⟨n1, gcI_62 hS hN hN9 hI (fun hp => ih M7 l hI (by omega) hp (by omega))⟩
theorem gcI_42 {X Y N : Nat} (hS : Sk M u) (hN : (Nat.gcd X Y : Int) < 16777216 ^ N) (hN9 : N < 900) : ∀ (n : Nat) (M1 : mM) (l : Int), gcI M u X Y M1 l → (xn M1 (u + 11) % 2 = 1 ∨ xn M1 (u + 13) % 2 = 1) → xn M1 (u + 11) ≤ n → h_MU_common_42 G (d + 1) u l M1 (gcQ M u X Y) := by
  intro n
  induction n with
  | zero => intro M1 l h ho hs; have := h.px; omega
  | succ n ih =>
    intro M1 l h ho hs
    have S1 := hS.fi h.fi
    have ex := xn_eq h.wx
    have hl0 := h.l0
    have hl1 := h.l1
    have hpx := h.px
    refine k_MU_common_42 h.ok ⟨by omega, by omega⟩ ?_
    rw [S1.2.2.2.1]
    refine ⟨S1.1, h.wx.1.1, (s_MW_isOdd h.ok h.wx).mono (fun x M2 h2 => ?_)⟩
    obtain ⟨e2, hx⟩ := h2
    subst e2
    rw [S1.2.2.2.1]
    refine ⟨⟨by split at hx <;> omega, by split at hx <;> omega⟩, h.ok, fun c => ⟨S1.1, h.wx.1.1, (s_MW_halve h.ok h.wx).mono (fun M3 h3 => ?_)⟩, fun c => ?_⟩
    · obtain ⟨g1, g2, g3, g4⟩ := h3
      have e3 := xn_eq g3
      have hy3 := h.wy.out g2 (by omega) (by omega)
      have eyy : xn M3 (u + 13) = xn M2 (u + 13) := by unfold xn; rw [hy3.2]
      have hxx : xn M3 (u + 11) = xn M2 (u + 11) / 2 := by omega
      have hev : xn M2 (u + 11) % 2 = 0 := by split at hx <;> omega
      refine ⟨g1, ih M3 l ⟨g1, h.fi.trans (g2.mono (fun x q => by omega)), g3, hy3.1, h.wz.out g2 (by omega), by omega, hl0, hl1, ?_⟩ (by omega) (by omega)⟩
      rw [eyy, hxx, g_odd hev (by omega)]
      exact h.eq
    · have hod : xn M2 (u + 11) % 2 = 1 := by split at hx <;> omega
      exact gcI_62 hS hN hN9 h (fun hp => gcI_72 hS hN hN9 _ M2 l h hod hp (Nat.le_refl _))
theorem s_MU_common (hO : mOk M) (hS : Sk M u) (hx : W3 M (u + 11) 900) (hy : W3 M (u + 13) 900) (hz : Wh M (u + 15) 900) (hp : 0 < wv M (u + 11)) (hs : mI M (u + 11) 1 < 900) :
    Cv G y_MU_common (d + 2) [vr u] M (gcQ M u (xn M (u + 11)) (xn M (u + 13))) := by
  refine k_MU_common hO ?_
  have ex0 := xn_eq hx
  have hlt := hx.lt
  have hsz := hx.1.2.2.2.2.2.1
  have hgle : Nat.gcd (xn M (u + 11)) (xn M (u + 13)) ≤ xn M (u + 11) := Nat.gcd_le_left _ (by omega)
  have hN : (Nat.gcd (xn M (u + 11)) (xn M (u + 13)) : Int) < 16777216 ^ (mI M (u + 11) 1).toNat := by omega
  suffices H : ∀ (n : Nat) (M1 : mM) (l : Int), gcI M u (xn M (u + 11)) (xn M (u + 13)) M1 l → 2 ^ l.toNat * xn M1 (u + 11) = xn M (u + 11) → xn M1 (u + 11) ≤ n → h_MU_common_2 G (d + 1) u l M1 (gcQ M u (xn M (u + 11)) (xn M (u + 13))) from
    H _ M 0 ⟨hO, FI.refl, hx, hy, hz, by omega, by omega, by omega, by simp⟩ (by simp) (Nat.le_refl _)
  intro n
  induction n with
  | zero => intro M1 l h hl hs; have := h.px; omega
  | succ n ih =>
    intro M1 l h hl hs
    have S1 := hS.fi h.fi
    have ex := xn_eq h.wx
    have ey := xn_eq h.wy
    have hl0 := h.l0
    have hl1 := h.l1
    have hpx := h.px
    refine k_MU_common_2 h.ok ⟨by omega, by omega⟩ ?_
    rw [S1.2.2.2.1]
    refine ⟨S1.1, h.wx.1.1, (s_MW_isOdd h.ok h.wx).mono (fun x M2 h2 => ?_)⟩
    obtain ⟨e2, hx⟩ := h2
    subst e2
    refine ⟨⟨by split at hx <;> omega, by split at hx <;> omega⟩, h.ok, fun c => ⟨S1.1, ?_⟩, fun c => ?_⟩
    · have hev : xn M2 (u + 11) % 2 = 0 := by split at hx <;> omega
      rw [S1.2.2.2.2.1]
      refine ⟨h.wy.1.1, (s_MW_isOdd h.ok h.wy).mono (fun y M3 h3 => ?_)⟩
      obtain ⟨e3, hy'⟩ := h3
      subst e3
      rw [S1.2.2.2.1]
      refine ⟨⟨by split at hy' <;> omega, by split at hy' <;> omega⟩, h.ok, fun c => ⟨S1.1, h.wx.1.1, (s_MW_halve h.ok h.wx).mono (fun M4 h4 => ?_)⟩, fun c => ?_⟩
      · have hey : xn M3 (u + 13) % 2 = 0 := by split at hy' <;> omega
        obtain ⟨g1, g2, g3, g4⟩ := h4
        have S4 := S1.fi g2
        obtain ⟨y4, vy4⟩ := h.wy.out g2 (by omega) (by omega)
        refine ⟨g1, S4.1, ?_⟩
        rw [S4.2.2.2.2.1]
        refine ⟨y4.1.1, (s_MW_halve g1 y4).mono (fun M5 h5 => ?_)⟩
        obtain ⟨k1, k2, k3, k4⟩ := h5
        obtain ⟨x5, vx5⟩ := g3.out k2 (by omega) (by omega)
        have e5 := xn_eq x5
        have e6 := xn_eq k3
        have hxx : xn M5 (u + 11) = xn M3 (u + 11) / 2 := by omega
        have hyy : xn M5 (u + 13) = xn M3 (u + 13) / 2 := by omega
        have hpow : 2 ^ (l + 1).toNat * xn M5 (u + 11) = xn M (u + 11) := by
          rw [show (l + 1).toNat = l.toNat + 1 by omega, Nat.pow_succ, Nat.mul_assoc, hxx, show 2 * (xn M3 (u + 11) / 2) = xn M3 (u + 11) by omega]
          exact hl
        have hl24 : l + 1 ≤ 21600 := by
          have h1 : 2 ^ (l + 1).toNat ≤ xn M (u + 11) := by
            rw [← hpow]
            exact Nat.le_mul_of_pos_right _ (by omega)
          have h2 : xn M (u + 11) < 2 ^ (24 * (mI M (u + 11) 1).toNat) := by
            have h3 := pow24 (mI M (u + 11) 1).toNat
            have h4 : ((2 ^ (24 * (mI M (u + 11) 1).toNat) : Nat) : Int) = 16777216 ^ (mI M (u + 11) 1).toNat := by
              rw [Int.natCast_pow]
              exact h3.symm
            omega
          have h5 := (Nat.pow_lt_pow_iff_right (a := 2) (by decide)).1 (Nat.lt_of_le_of_lt h1 h2)
          omega
        refine ⟨k1, ih M5 (l + 1) ⟨k1, (h.fi.trans (g2.mono (fun x q => by omega))).trans (k2.mono (fun x q => by omega)), x5, k3, (h.wz.out g2 (by omega)).out k2 (by omega), by omega, by omega, hl24, ?_⟩ hpow (by omega)⟩
        rw [show (l + 1).toNat = l.toNat + 1 by omega, Nat.pow_succ, Nat.mul_assoc, hxx, hyy, ← g_two hev hey]
        exact h.eq
      · have hoy : xn M3 (u + 13) % 2 = 1 := by split at hy' <;> omega
        exact gcI_42 hS hN (by omega) _ M3 l h (Or.inr hoy) (Nat.le_refl _)
    · have hox : xn M2 (u + 11) % 2 = 1 := by split at hx <;> omega
      exact gcI_42 hS hN (by omega) _ M2 l h (Or.inl hox) (Nat.le_refl _)
end SU
end
