section
section
/-! The reference's sums: bring, divide. -/
def Sk (M : mM) (u : Nat) : Prop := mK M u = 18 ∧ mR M u 0 = u + 1 ∧ mR M u 1 = u + 6 ∧ mR M u 2 = u + 11 ∧ mR M u 3 = u + 13 ∧ mR M u 4 = u + 15 ∧ mR M u 5 = u + 17 ∧ mR M u 6 = u + 19
theorem Sk.fi {S : Nat → Prop} {M M' : mM} {u : Nat} (h : Sk M u) (f : FI S M M') : Sk M' u := by
  obtain ⟨f1, f2, f3, -⟩ := f
  unfold Sk at h ⊢
  rw [f1, f3]
  exact h
theorem W3.le {M : mM} {a r : Nat} {M2 : mM} {b r2 : Nat} (h : W3 M a r) (k : W3 M2 b r2) (hv : wv M a ≤ wv M2 b) : mI M a 1 ≤ mI M2 b 1 := by
  have h1 := h.size (k := (mI M2 b 1).toNat) (Int.lt_of_le_of_lt hv k.lt)
  have h2 := k.1.2.2.2.2.2.1
  omega
section SU
variable {G : mG} {d u a b r r2 : Nat} {M : mM}
theorem s_MU_bring {m : Int} (hm : m = 0 ∨ m = 1) (hO : mOk M) (hA : W3 M a r) (hr : mI M a 1 < r) (h3 : 3 ≤ r) : Cv G y_MU_bring (d + 1) [vr a, vi m] M (fun M' => mOk M' ∧ FI (fun x => x = a ∨ x = a + 1) M M' ∧ W3 M' a r ∧ wv M' a = 2 * wv M a + m) := by
  refine k_MU_bring hO ⟨by omega, by omega⟩ ⟨hA.1.1, ?_⟩
  refine (s_MW_isZero hO hA.1).mono (fun x M1 h1 => ?_)
  obtain ⟨e1, e2⟩ := h1
  subst e1
  have hz := hA.zero
  refine ⟨⟨by split at e2 <;> omega, by split at e2 <;> omega⟩, hO, fun hc => ⟨hA.1.1, ?_⟩, fun hc v hv => ⟨hA.1.1, ?_⟩⟩
  · refine (s_MW_twice hm hO hA hr (Or.inr (Or.inr trivial))).mono (fun M2 h2 => ?_)
    exact ⟨h2.1, h2⟩
  · have hv' : v = m := by rw [hv]; rcases hm with q | q <;> simp [q]
    have e0 : wv M1 a = 0 := by rw [← hz]; by_cases z : mI M1 a 1 = 0 <;> simp [z] at e2 <;> omega
    refine (s_MW_set (by omega) (by omega) ⟨by omega, by omega⟩ hO hA.1 h3).mono (fun M2 h2 => ?_)
    obtain ⟨g1, g2, g3, g4⟩ := h2
    exact ⟨g1, g1, g2, g3, by omega⟩
theorem half_pow (A : Int) (n : Nat) : A / 2 ^ (n + 1) = A / 2 ^ n / 2 := by
  have h : (0 : Int) < 2 ^ n := Int.pow_pos (by decide)
  rw [Int.pow_succ, Int.ediv_ediv, if_neg (fun q => by omega)]
  omega
theorem s_MU_divide0 (hO : mOk M) (hS : Sk M u) (hq : Wh M (u + 17) 900) (hs : Wh M (u + 19) 900) (hA : W3 M a r) (hB : W3 M b r2)
    (ha : a + 1 < u + 17 ∨ u + 20 < a) (hb : b + 1 < u + 17 ∨ u + 20 < b) (hb0 : 0 < wv M b) (sa : mI M a 1 < 900) (sb : mI M b 1 < 900) :
    Cv G y_MU_divide0 (d + 2) [vr u, vr a, vr b] M (fun M' => mOk M' ∧ FI (fun x => u + 17 ≤ x ∧ x ≤ u + 20) M M' ∧ W3 M' (u + 17) 900 ∧ W3 M' (u + 19) 900 ∧ wv M' (u + 17) = wv M a / wv M b ∧ wv M' (u + 19) = wv M a % wv M b) := by
  have hS0 := hS
  obtain ⟨s1, s2, s3, s4, s5, s6, s7, s8⟩ := hS
  refine k_MU_divide0 hO ?_
  rw [s7]
  refine ⟨s1, hq.1, (s_MW_set (by omega) (by omega) ⟨by omega, by omega⟩ hO hq (by omega)).mono (fun M1 h1 => ?_)⟩
  obtain ⟨g1, g2, g3, g4⟩ := h1
  have S1 := hS0.fi g2
  have hs1 : Wh M1 (u + 19) 900 := hs.out g2 (by omega)
  refine ⟨g1, ?_⟩
  rw [S1.2.2.2.2.2.2.2]
  refine ⟨S1.1, hs1.1, (s_MW_set (by omega) (by omega) ⟨by omega, by omega⟩ g1 hs1 (by omega)).mono (fun M2 h2 => ?_)⟩
  obtain ⟨k1, k2, k3, k4⟩ := h2
  have S2 := S1.fi k2
  have q2 := g3.out k2 (by omega) (by omega)
  have F2 : FI (fun x => u + 17 ≤ x ∧ x ≤ u + 20) M M2 := (g2.mono (fun x q => by omega)).trans (k2.mono (fun x q => by omega))
  have a2 := hA.out F2 (by omega) (by omega)
  have b2 := hB.out F2 (by omega) (by omega)
  refine ⟨k1, a2.1.1.1, (s_MW_places k1 a2.1).mono (fun x M3 h3 => ?_)⟩
  obtain ⟨e3, p1, p2, p3, p4⟩ := h3
  subst e3
  have r9 : (r : Int) < 100000 := by have := hA.1.2.2.2.2.1; omega
  refine ⟨⟨by omega, by omega⟩, k1, ?_⟩
  suffices H : ∀ (k : Nat) (l : Int) (M1 : mM), l + 1 = k → l < 2400000 → mOk M1 → FI (fun x => u + 17 ≤ x ∧ x ≤ u + 20) M M1 → W3 M1 (u + 17) 900 → W3 M1 (u + 19) 900 → wv M1 (u + 17) * wv M b + wv M1 (u + 19) = wv M a / 2 ^ k → wv M1 (u + 19) < wv M b → h_MU_divide0_23 G (d + 1) u a b l M1 (fun M' => mOk M' ∧ FI (fun x => u + 17 ≤ x ∧ x ≤ u + 20) M M' ∧ W3 M' (u + 17) 900 ∧ W3 M' (u + 19) 900 ∧ wv M' (u + 17) = wv M a / wv M b ∧ wv M' (u + 19) = wv M a % wv M b) by
    refine H x.toNat (x - 1) M3 (by omega) (by omega) k1 F2 q2.1 k3 ?_ (by omega)
    rw [q2.2, g4, k4, Int.ediv_eq_zero_of_lt hA.nonneg (by rw [← a2.2]; exact p3)]
    omega
  clear p1 p2 p3 p4 k3 k4 k2 k1 q2 a2 b2 S2 F2 g4 g3 g2 g1 S1 hs1 hs hq s2 s3 s4 s5 s6 s7 s8 s1
  intro k
  induction k with
  | zero =>
    intro l M1 hk hl hO1 F1 W1 W2 hv hlt
    refine k_MU_divide0_23 hO1 ⟨by omega, by omega⟩ ⟨fun _ => ⟨hO1, F1, W1, W2, ?_⟩, fun c => by omega⟩
    have h0 := W2.nonneg
    have e : wv M a = wv M1 (u + 17) * wv M b + wv M1 (u + 19) := by rw [hv]; simp
    rw [e]
    rw [Int.add_comm, Int.add_mul_ediv_right _ _ (by omega), Int.ediv_eq_zero_of_lt h0 hlt, Int.add_mul_emod_self_right, Int.emod_eq_of_lt h0 hlt]
    omega
  | succ k ih =>
    intro l M1 hk hl hO1 F1 W1 W2 hv hlt
    have S1 := hS0.fi F1
    obtain ⟨A1, ea⟩ := hA.out F1 (by omega) (by omega)
    obtain ⟨B1, eb⟩ := hB.out F1 (by omega) (by omega)
    have hlk : l.toNat = k := by omega
    refine k_MU_divide0_23 hO1 ⟨by omega, by omega⟩ ⟨fun c => by omega, fun _ => ⟨S1.1, A1.1.1, (s_MW_bit (by omega) ⟨by omega, by omega⟩ hO1 A1).mono (fun x M2 h2 => ?_)⟩⟩
    obtain ⟨e2, hx⟩ := h2
    subst e2
    have hx01 : x = 0 ∨ x = 1 := by split at hx <;> omega
    refine ⟨⟨by omega, by omega⟩, hO1, ?_⟩
    rw [S1.2.2.2.2.2.2.2]
    have sr : mI M2 (u + 19) 1 ≤ mI M2 b 1 := W2.le B1 (by omega)
    have zb : mI M2 b 1 = mI M b 1 := by rw [F1.2.2.2.2.2.2 b (by omega)]
    have za : mI M2 a 1 = mI M a 1 := by rw [F1.2.2.2.2.2.2 a (by omega)]
    refine (s_MU_bring hx01 hO1 W2 (by omega) (by omega)).mono (fun M3 h3 => ?_)
    obtain ⟨g1, g2, g3, g4⟩ := h3
    have S3 := S1.fi g2
    obtain ⟨Q3, eq3⟩ := W1.out g2 (by omega) (by omega)
    obtain ⟨B3, eb3⟩ := B1.out g2 (by omega) (by omega)
    refine ⟨g1, ?_⟩
    rw [S3.2.2.2.2.2.2.2]
    refine ⟨S3.1, g3.1.1, (s_MW_compare g1 g3 B3).mono (fun y M4 h4 => ?_)⟩
    obtain ⟨e4, hy⟩ := h4
    subst e4
    have F3 : FI (fun x => u + 17 ≤ x ∧ x ≤ u + 20) M M4 := F1.trans (g2.mono (fun x q => by omega))
    have hhalf := half_pow (wv M a) k
    rw [hhalf] at hv
    rw [ea, hlk] at hx
    have nq := W1.nonneg
    have nr := W2.nonneg
    have hXx : wv M a / 2 ^ k = 2 * (wv M a / 2 ^ k / 2) + x := by
      split at hx <;> omega
    have hXA : wv M a / 2 ^ k ≤ wv M a := Int.ediv_le_self _ hA.nonneg
    have hqA : wv M2 (u + 17) ≤ wv M a := by
      have : wv M2 (u + 17) * 1 ≤ wv M2 (u + 17) * wv M b := Int.mul_le_mul_of_nonneg_left (by omega) nq
      have : 0 ≤ wv M a / 2 ^ k := Int.ediv_nonneg hA.nonneg (Int.le_of_lt (Int.pow_pos (by decide)))
      omega
    have sq : mI M4 (u + 17) 1 ≤ mI M a 1 := Q3.le hA (by omega)
    refine ⟨⟨by split at hy <;> (try split at hy) <;> omega, by split at hy <;> (try split at hy) <;> omega⟩, g1, fun v hv31 => ⟨fun c => ⟨S3.1, ?_⟩, fun c => ⟨S3.1, by rw [S3.2.2.2.2.2.2.2]; exact g3.1.1, ?_⟩⟩⟩
    · rw [S3.2.2.2.2.2.2.1]
      have hyn : y < 0 := by split at hv31 <;> omega
      have hlt3 : wv M4 (u + 19) < wv M b := by
        split at hy
        · omega
        · split at hy <;> omega
      rw [c]
      refine (s_MU_bring (Or.inl rfl) g1 Q3 (by omega) (by omega)).mono (fun M5 h5 => ?_)
      obtain ⟨k1, k2, k3, k4⟩ := h5
      obtain ⟨R5, er5⟩ := g3.out k2 (by omega) (by omega)
      refine ⟨k1, ih (l + (-1)) M5 (by omega) (by omega) k1 (F3.trans (k2.mono (fun x q => by omega))) k3 R5 ?_ (by omega)⟩
      rw [k4, er5, g4, eq3, hXx, ← hv, Int.add_zero, Int.mul_assoc]
      omega
    · have hyn : ¬ y < 0 := by split at hv31 <;> omega
      have hge3 : wv M4 b ≤ wv M4 (u + 19) := by
        split at hy
        · omega
        · split at hy <;> omega
      have hv1 : v = 1 := by split at hv31 <;> omega
      rw [S3.2.2.2.2.2.2.2]
      refine (s_MW_less g1 g3 B3 (by omega) hge3).mono (fun M5 h5 => ?_)
      obtain ⟨k1, k2, k3, k4⟩ := h5
      obtain ⟨Q5, eq5⟩ := Q3.out k2 (by omega) (by omega)
      have S5 := S3.fi k2
      have zq : mI M5 (u + 17) 1 = mI M4 (u + 17) 1 := by rw [k2.2.2.2.2.2.2 (u + 17) (by omega)]
      refine ⟨k1, S5.1, ?_⟩
      rw [S5.2.2.2.2.2.2.1, hv1]
      refine (s_MU_bring (Or.inr rfl) k1 Q5 (by omega) (by omega)).mono (fun M6 h6 => ?_)
      obtain ⟨m1, m2, m3, m4⟩ := h6
      obtain ⟨R6, er6⟩ := k3.out m2 (by omega) (by omega)
      refine ⟨m1, ih (l + (-1)) M6 (by omega) (by omega) m1 ((F3.trans (k2.mono (fun x q => by omega))).trans (m2.mono (fun x q => by omega))) m3 R6 ?_ (by omega)⟩
      rw [m4, er6, k4, g4, eq5, eq3, hXx, ← hv, Int.add_mul, Int.mul_assoc]
      omega
end SU
end
section
/-! The reference's sums: the greatest common divisor. -/
def xn (M : mM) (a : Nat) : Nat := (wv M a).toNat
theorem xn_eq {M : mM} {a r : Nat} (h : W3 M a r) : (xn M a : Int) = wv M a := by
  have := h.nonneg
  unfold xn
  omega
theorem g_two {x y : Nat} (hx : x % 2 = 0) (hy : y % 2 = 0) : Nat.gcd x y = 2 * Nat.gcd (x / 2) (y / 2) := by
  have h := Nat.gcd_mul_left 2 (x / 2) (y / 2)
  rw [show 2 * (x / 2) = x by omega, show 2 * (y / 2) = y by omega] at h
  exact h
theorem g_odd {x y : Nat} (hx : x % 2 = 0) (hy : y % 2 = 1) : Nat.gcd (x / 2) y = Nat.gcd x y := by
  have hc : Nat.Coprime 2 y := by
    unfold Nat.Coprime
    rw [Nat.gcd_rec, hy]; rfl
  have h := Nat.Coprime.gcd_mul_left_cancel (x / 2) hc
  rw [show 2 * (x / 2) = x by omega] at h
  exact h.symm
theorem g_sub {x y : Nat} (h : x ≤ y) : Nat.gcd x (y - x) = Nat.gcd x y := by
  have e := Nat.gcd_add_self_right (m := x) (n := y - x)
  rw [show y - x + x = y by omega] at e
  exact e.symm
section SU
variable {G : mG} {d u : Nat} {M : mM}
abbrev gcS (u : Nat) : Nat → Prop := fun x => u + 11 ≤ x ∧ x ≤ u + 16
abbrev gcQ (M : mM) (u X Y : Nat) : mM → Prop := fun M' => mOk M' ∧ FI (gcS u) M M' ∧ W3 M' (u + 11) 900 ∧ W3 M' (u + 13) 900 ∧ Wh M' (u + 15) 900 ∧ wv M' (u + 11) = Nat.gcd X Y
abbrev gcI (M : mM) (u X Y : Nat) (M1 : mM) (l : Int) : Prop := mOk M1 ∧ FI (gcS u) M M1 ∧ W3 M1 (u + 11) 900 ∧ W3 M1 (u + 13) 900 ∧ Wh M1 (u + 15) 900 ∧ 0 < xn M1 (u + 11) ∧ 0 ≤ l ∧ l ≤ 21600 ∧ 2 ^ l.toNat * Nat.gcd (xn M1 (u + 11)) (xn M1 (u + 13)) = Nat.gcd X Y
theorem gcI.ok {M M1 : mM} {u X Y : Nat} {l : Int} (h : gcI M u X Y M1 l) : mOk M1 := h.1
theorem gcI.fi {M M1 : mM} {u X Y : Nat} {l : Int} (h : gcI M u X Y M1 l) : FI (gcS u) M M1 := h.2.1
theorem gcI.wx {M M1 : mM} {u X Y : Nat} {l : Int} (h : gcI M u X Y M1 l) : W3 M1 (u + 11) 900 := h.2.2.1
theorem gcI.wy {M M1 : mM} {u X Y : Nat} {l : Int} (h : gcI M u X Y M1 l) : W3 M1 (u + 13) 900 := h.2.2.2.1
theorem gcI.wz {M M1 : mM} {u X Y : Nat} {l : Int} (h : gcI M u X Y M1 l) : Wh M1 (u + 15) 900 := h.2.2.2.2.1
theorem gcI.px {M M1 : mM} {u X Y : Nat} {l : Int} (h : gcI M u X Y M1 l) : 0 < xn M1 (u + 11) := h.2.2.2.2.2.1
theorem gcI.l0 {M M1 : mM} {u X Y : Nat} {l : Int} (h : gcI M u X Y M1 l) : 0 ≤ l := h.2.2.2.2.2.2.1
theorem gcI.l1 {M M1 : mM} {u X Y : Nat} {l : Int} (h : gcI M u X Y M1 l) : l ≤ 21600 := h.2.2.2.2.2.2.2.1
theorem gcI.eq {M M1 : mM} {u X Y : Nat} {l : Int} (h : gcI M u X Y M1 l) : 2 ^ l.toNat * Nat.gcd (xn M1 (u + 11)) (xn M1 (u + 13)) = Nat.gcd X Y := h.2.2.2.2.2.2.2.2
theorem gcI_155 {X Y N : Nat} (hS : Sk M u) (hN : (Nat.gcd X Y : Int) < 16777216 ^ N) (hN9 : N < 900) : ∀ (k : Nat) (l m : Int) (M1 : mM), l - m = k → 0 ≤ m → l ≤ 21600 → mOk M1 → FI (gcS u) M M1 → W3 M1 (u + 11) 900 → W3 M1 (u + 13) 900 → Wh M1 (u + 15) 900 → 2 ^ k * xn M1 (u + 11) = Nat.gcd X Y → h_MU_common_155 G d u l m M1 (gcQ M u X Y) := by
  intro k
  induction k with
  | zero =>
    intro l m M1 hk h0 h1 hO1 F1 W1 W2 W4 he
    refine k_MU_common_155 hO1 ⟨by omega, by omega⟩ ⟨by omega, by omega⟩ ⟨fun _ => ⟨hO1, F1, W1, W2, W4, ?_⟩, fun c => by omega⟩
    have := xn_eq W1
    omega
  | succ k ih =>
    intro l m M1 hk h0 h1 hO1 F1 W1 W2 W4 he
    have S1 := hS.fi F1
    have ex := xn_eq W1
    have hle : xn M1 (u + 11) ≤ Nat.gcd X Y := by
      rw [← he]
      exact Nat.le_mul_of_pos_left _ (Nat.pow_pos (by decide))
    have hsz := W1.size (k := N) (by omega)
    refine k_MU_common_155 hO1 ⟨by omega, by omega⟩ ⟨by omega, by omega⟩ ⟨fun c => by omega, fun _ => ?_⟩
    rw [S1.2.2.2.1]
    refine ⟨S1.1, W1.1.1, (s_MW_twice (Or.inl rfl) hO1 W1 (by omega) (Or.inr (Or.inr trivial))).mono (fun M2 h2 => ?_)⟩
    obtain ⟨g1, g2, g3, g4⟩ := h2
    refine ⟨g1, ih l (m + 1) M2 (by omega) (by omega) h1 g1 (F1.trans (g2.mono (fun x q => by omega))) g3 (W2.out g2 (by omega) (by omega)).1 (W4.out g2 (by omega)) ?_⟩
    have e2 := xn_eq g3
    rw [← he, Nat.pow_succ, Nat.mul_assoc]
    congr 1
    omega
theorem gcI_62 {X Y N : Nat} (hS : Sk M u) (hN : (Nat.gcd X Y : Int) < 16777216 ^ N) (hN9 : N < 900) {M1 : mM} {l : Int} (h : gcI M u X Y M1 l) (hn : 0 < xn M1 (u + 13) → h_MU_common_72 G d u l M1 (gcQ M u X Y)) : h_MU_common_62 G d u l M1 (gcQ M u X Y) := by
  have S1 := hS.fi h.fi
  have ey := xn_eq h.wy
  have hz := h.wy.zero
  have hl0 := h.l0
  have hl1 := h.l1
  refine k_MU_common_62 h.ok ⟨by omega, by omega⟩ ?_
  rw [S1.2.2.2.2.1]
  refine ⟨S1.1, h.wy.1.1, (s_MW_isZero h.ok h.wy.1).mono (fun x M2 h2 => ?_)⟩
  obtain ⟨e2, hx⟩ := h2
  subst e2
  refine ⟨⟨by split at hx <;> omega, by split at hx <;> omega⟩, h.ok, fun c => hn ?_, fun c => ?_⟩
  · have := h.wy.nonneg
    by_cases z : mI M2 (u + 13) 1 = 0
    · rw [if_pos z] at hx
      omega
    · have : wv M2 (u + 13) ≠ 0 := fun q => z (hz.2 q)
      omega
  · have z : mI M2 (u + 13) 1 = 0 := Classical.byContradiction (fun z => by rw [if_neg z] at hx; omega)
    have e0 : xn M2 (u + 13) = 0 := by have := hz.1 z; omega
    refine gcI_155 hS hN hN9 l.toNat l 0 M2 (by omega) (by omega) hl1 h.ok h.fi h.wx h.wy h.wz ?_
    have := h.eq
    rw [e0, Nat.gcd_zero_right] at this
    exact this
theorem gcI_72 {X Y N : Nat} (hS : Sk M u) (hN : (Nat.gcd X Y : Int) < 16777216 ^ N) (hN9 : N < 900) : ∀ (n : Nat) (M1 : mM) (l : Int), gcI M u X Y M1 l → xn M1 (u + 11) % 2 = 1 → 0 < xn M1 (u + 13) → xn M1 (u + 11) + xn M1 (u + 13) ≤ n → h_MU_common_72 G (d + 1) u l M1 (gcQ M u X Y) := by
  intro n
  induction n with
  | zero => intro M1 l h ho hy hs; omega
  | succ n ih =>
    intro M1 l h ho hy hs
    have S1 := hS.fi h.fi
    have ex := xn_eq h.wx
    have ey := xn_eq h.wy
    have hl0 := h.l0
    have hl1 := h.l1
    refine k_MU_common_72 h.ok ⟨by omega, by omega⟩ ?_
    rw [S1.2.2.2.2.1]
    refine ⟨S1.1, h.wy.1.1, (s_MW_isOdd h.ok h.wy).mono (fun x M2 h2 => ?_)⟩
    obtain ⟨e2, hx⟩ := h2
    subst e2
    rw [S1.2.2.2.2.1, S1.2.2.2.1]
    refine ⟨⟨by split at hx <;> omega, by split at hx <;> omega⟩, h.ok, fun c => ⟨S1.1, h.wy.1.1, (s_MW_halve h.ok h.wy).mono (fun M3 h3 => ?_)⟩, fun c => ⟨S1.1, h.wx.1.1, (s_MW_compare h.ok h.wx h.wy).mono (fun y M3 h3 => ?_)⟩⟩
    · obtain ⟨g1, g2, g3, g4⟩ := h3
      have e3 := xn_eq g3
      have hx3 := h.wx.out g2 (by omega) (by omega)
      have exx : xn M3 (u + 11) = xn M2 (u + 11) := by unfold xn; rw [hx3.2]
      have hyy : xn M3 (u + 13) = xn M2 (u + 13) / 2 := by omega
      have hev : xn M2 (u + 13) % 2 = 0 := by split at hx <;> omega
      refine ⟨g1, ih M3 l ⟨g1, h.fi.trans (g2.mono (fun x q => by omega)), hx3.1, g3, h.wz.out g2 (by omega), by have := h.px; omega, hl0, hl1, ?_⟩ (by omega) (by omega) (by omega)⟩
      rw [exx, hyy, Nat.gcd_comm, g_odd hev ho, Nat.gcd_comm]
      exact h.eq
    · obtain ⟨e3, hc⟩ := h3
      subst e3
      have hod : xn M3 (u + 13) % 2 = 1 := by
        split at hx
        · omega
        · omega
      have hpx := h.px
      rw [S1.2.2.2.2.1, S1.2.2.2.1, S1.2.2.2.2.2.1]
      refine ⟨⟨by split at hc <;> (try split at hc) <;> omega, by split at hc <;> (try split at hc) <;> omega⟩, h.ok, fun q => ⟨S1.1, h.wy.1.1, ?_⟩, fun q => ⟨S1.1, h.wz.1, ?_⟩⟩
      · have hle : wv M3 (u + 11) ≤ wv M3 (u + 13) := by
          split at hc
          · omega
          · split at hc <;> omega
        refine (s_MW_less h.ok h.wy h.wx (by omega) hle).mono (fun M4 h4 => ?_)
        obtain ⟨g1, g2, g3, g4⟩ := h4
        have e3 := xn_eq g3
        have hx3 := h.wx.out g2 (by omega) (by omega)
        have exx : xn M4 (u + 11) = xn M3 (u + 11) := by unfold xn; rw [hx3.2]
        have hyy : xn M4 (u + 13) = xn M3 (u + 13) - xn M3 (u + 11) := by omega
        have hI : gcI M u X Y M4 l := ⟨g1, h.fi.trans (g2.mono (fun x q => by omega)), hx3.1, g3, h.wz.out g2 (by omega), by omega, hl0, hl1, by rw [exx, hyy, g_sub (by omega)]; exact h.eq⟩
        exact ⟨g1, gcI_62 hS hN hN9 hI (fun hp => ih M4 l hI (by omega) hp (by omega))⟩
      · have hgt : wv M3 (u + 13) < wv M3 (u + 11) := by
          split at hc
          · omega
          · split at hc <;> omega
        refine (s_MW_copy h.ok h.wz h.wx (by omega) h.wx.1.2.2.2.2.2.2).mono (fun M4 h4 => ?_)
        obtain ⟨g1, g2, g3, g4⟩ := h4
        have S4 := S1.fi g2
        obtain ⟨x4, vx4⟩ := h.wx.out g2 (by omega) (by omega)
        obtain ⟨y4, vy4⟩ := h.wy.out g2 (by omega) (by omega)
        refine ⟨g1, ?_⟩
        rw [S4.2.2.2.2.1, S4.2.2.2.1]
        refine ⟨S4.1, x4.1.1, (s_MW_copy g1 x4.1 y4 (by omega) y4.1.2.2.2.2.2.2).mono (fun M5 h5 => ?_)⟩
        obtain ⟨k1, k2, k3, k4⟩ := h5
        have S5 := S4.fi k2
        obtain ⟨z5, vz5⟩ := g3.out k2 (by omega) (by omega)
        obtain ⟨y5, vy5⟩ := y4.out k2 (by omega) (by omega)
        refine ⟨k1, ?_⟩
        rw [S5.2.2.2.2.1, S5.2.2.2.2.2.1]
        refine ⟨S5.1, y5.1.1, (s_MW_copy k1 y5.1 z5 (by omega) z5.1.2.2.2.2.2.2).mono (fun M6 h6 => ?_)⟩
        obtain ⟨m1, m2, m3, m4⟩ := h6
        have S6 := S5.fi m2
        obtain ⟨z6, vz6⟩ := z5.out m2 (by omega) (by omega)
        obtain ⟨x6, vx6⟩ := k3.out m2 (by omega) (by omega)
        refine ⟨m1, ?_⟩
        rw [S6.2.2.2.2.1, S6.2.2.2.1]
        refine ⟨S6.1, m3.1.1, (s_MW_less m1 m3 x6 (by omega) (by omega)).mono (fun M7 h7 => ?_)⟩
        obtain ⟨n1, n2, n3, n4⟩ := h7
        obtain ⟨z7, vz7⟩ := z6.out n2 (by omega) (by omega)
        obtain ⟨x7, vx7⟩ := x6.out n2 (by omega) (by omega)
        have e7 := xn_eq n3
        have e8 := xn_eq x7
        have exx : xn M7 (u + 11) = xn M3 (u + 13) := by omega
        have hyy : xn M7 (u + 13) = xn M3 (u + 11) - xn M3 (u + 13) := by omega
        have hI : gcI M u X Y M7 l := ⟨n1, (((h.fi.trans (g2.mono (fun x q => by omega))).trans (k2.mono (fun x q => by omega))).trans (m2.mono (fun x q => by omega))).trans (n2.mono (fun x q => by omega)), x7, n3, z7.1, by omega, hl0, hl1, by rw [exx, hyy, g_sub (by omega), Nat.gcd_comm]; exact h.eq⟩
        exact ⟨n1, gcI_62 hS hN hN9 hI (fun hp => ih M7 l hI (by omega) hp (by omega))⟩
theorem gcI_42 {X Y N : Nat} (hS : Sk M u) (hN : (Nat.gcd X Y : Int) < 16777216 ^ N) (hN9 : N < 900) : ∀ (n : Nat) (M1 : mM) (l : Int), gcI M u X Y M1 l → (xn M1 (u + 11) % 2 = 1 ∨ xn M1 (u + 13) % 2 = 1) → xn M1 (u + 11) ≤ n → h_MU_common_42 G (d + 1) u l M1 (gcQ M u X Y) := by
  intro n
  induction n with
  | zero => intro M1 l h ho hs; have := h.px; omega
  | succ n ih =>
    intro M1 l h ho hs
    have S1 := hS.fi h.fi
    have ex := xn_eq h.wx
    have hl0 := h.l0
    have hl1 := h.l1
    have hpx := h.px
    refine k_MU_common_42 h.ok ⟨by omega, by omega⟩ ?_
    rw [S1.2.2.2.1]
    refine ⟨S1.1, h.wx.1.1, (s_MW_isOdd h.ok h.wx).mono (fun x M2 h2 => ?_)⟩
    obtain ⟨e2, hx⟩ := h2
    subst e2
    rw [S1.2.2.2.1]
    refine ⟨⟨by split at hx <;> omega, by split at hx <;> omega⟩, h.ok, fun c => ⟨S1.1, h.wx.1.1, (s_MW_halve h.ok h.wx).mono (fun M3 h3 => ?_)⟩, fun c => ?_⟩
    · obtain ⟨g1, g2, g3, g4⟩ := h3
      have e3 := xn_eq g3
      have hy3 := h.wy.out g2 (by omega) (by omega)
      have eyy : xn M3 (u + 13) = xn M2 (u + 13) := by unfold xn; rw [hy3.2]
      have hxx : xn M3 (u + 11) = xn M2 (u + 11) / 2 := by omega
      have hev : xn M2 (u + 11) % 2 = 0 := by split at hx <;> omega
      refine ⟨g1, ih M3 l ⟨g1, h.fi.trans (g2.mono (fun x q => by omega)), g3, hy3.1, h.wz.out g2 (by omega), by omega, hl0, hl1, ?_⟩ (by omega) (by omega)⟩
      rw [eyy, hxx, g_odd hev (by omega)]
      exact h.eq
    · have hod : xn M2 (u + 11) % 2 = 1 := by split at hx <;> omega
      exact gcI_62 hS hN hN9 h (fun hp => gcI_72 hS hN hN9 _ M2 l h hod hp (Nat.le_refl _))
theorem s_MU_common (hO : mOk M) (hS : Sk M u) (hx : W3 M (u + 11) 900) (hy : W3 M (u + 13) 900) (hz : Wh M (u + 15) 900) (hp : 0 < wv M (u + 11)) (hs : mI M (u + 11) 1 < 900) :
    Cv G y_MU_common (d + 2) [vr u] M (gcQ M u (xn M (u + 11)) (xn M (u + 13))) := by
  refine k_MU_common hO ?_
  have ex0 := xn_eq hx
  have hlt := hx.lt
  have hsz := hx.1.2.2.2.2.2.1
  have hgle : Nat.gcd (xn M (u + 11)) (xn M (u + 13)) ≤ xn M (u + 11) := Nat.gcd_le_left _ (by omega)
  have hN : (Nat.gcd (xn M (u + 11)) (xn M (u + 13)) : Int) < 16777216 ^ (mI M (u + 11) 1).toNat := by omega
  suffices H : ∀ (n : Nat) (M1 : mM) (l : Int), gcI M u (xn M (u + 11)) (xn M (u + 13)) M1 l → 2 ^ l.toNat * xn M1 (u + 11) = xn M (u + 11) → xn M1 (u + 11) ≤ n → h_MU_common_2 G (d + 1) u l M1 (gcQ M u (xn M (u + 11)) (xn M (u + 13))) from
    H _ M 0 ⟨hO, FI.refl, hx, hy, hz, by omega, by omega, by omega, by simp⟩ (by simp) (Nat.le_refl _)
  intro n
  induction n with
  | zero => intro M1 l h hl hs; have := h.px; omega
  | succ n ih =>
    intro M1 l h hl hs
    have S1 := hS.fi h.fi
    have ex := xn_eq h.wx
    have ey := xn_eq h.wy
    have hl0 := h.l0
    have hl1 := h.l1
    have hpx := h.px
    refine k_MU_common_2 h.ok ⟨by omega, by omega⟩ ?_
    rw [S1.2.2.2.1]
    refine ⟨S1.1, h.wx.1.1, (s_MW_isOdd h.ok h.wx).mono (fun x M2 h2 => ?_)⟩
    obtain ⟨e2, hx⟩ := h2
    subst e2
    refine ⟨⟨by split at hx <;> omega, by split at hx <;> omega⟩, h.ok, fun c => ⟨S1.1, ?_⟩, fun c => ?_⟩
    · have hev : xn M2 (u + 11) % 2 = 0 := by split at hx <;> omega
      rw [S1.2.2.2.2.1]
      refine ⟨h.wy.1.1, (s_MW_isOdd h.ok h.wy).mono (fun y M3 h3 => ?_)⟩
      obtain ⟨e3, hy'⟩ := h3
      subst e3
      rw [S1.2.2.2.1]
      refine ⟨⟨by split at hy' <;> omega, by split at hy' <;> omega⟩, h.ok, fun c => ⟨S1.1, h.wx.1.1, (s_MW_halve h.ok h.wx).mono (fun M4 h4 => ?_)⟩, fun c => ?_⟩
      · have hey : xn M3 (u + 13) % 2 = 0 := by split at hy' <;> omega
        obtain ⟨g1, g2, g3, g4⟩ := h4
        have S4 := S1.fi g2
        obtain ⟨y4, vy4⟩ := h.wy.out g2 (by omega) (by omega)
        refine ⟨g1, S4.1, ?_⟩
        rw [S4.2.2.2.2.1]
        refine ⟨y4.1.1, (s_MW_halve g1 y4).mono (fun M5 h5 => ?_)⟩
        obtain ⟨k1, k2, k3, k4⟩ := h5
        obtain ⟨x5, vx5⟩ := g3.out k2 (by omega) (by omega)
        have e5 := xn_eq x5
        have e6 := xn_eq k3
        have hxx : xn M5 (u + 11) = xn M3 (u + 11) / 2 := by omega
        have hyy : xn M5 (u + 13) = xn M3 (u + 13) / 2 := by omega
        have hpow : 2 ^ (l + 1).toNat * xn M5 (u + 11) = xn M (u + 11) := by
          rw [show (l + 1).toNat = l.toNat + 1 by omega, Nat.pow_succ, Nat.mul_assoc, hxx, show 2 * (xn M3 (u + 11) / 2) = xn M3 (u + 11) by omega]
          exact hl
        have hl24 : l + 1 ≤ 21600 := by
          have h1 : 2 ^ (l + 1).toNat ≤ xn M (u + 11) := by
            rw [← hpow]
            exact Nat.le_mul_of_pos_right _ (by omega)
          have h2 : xn M (u + 11) < 2 ^ (24 * (mI M (u + 11) 1).toNat) := by
            have h3 := pow24 (mI M (u + 11) 1).toNat
            have h4 : ((2 ^ (24 * (mI M (u + 11) 1).toNat) : Nat) : Int) = 16777216 ^ (mI M (u + 11) 1).toNat := by
              rw [Int.natCast_pow]
              exact h3.symm
            omega
          have h5 := (Nat.pow_lt_pow_iff_right (a := 2) (by decide)).1 (Nat.lt_of_le_of_lt h1 h2)
          omega
        refine ⟨k1, ih M5 (l + 1) ⟨k1, (h.fi.trans (g2.mono (fun x q => by omega))).trans (k2.mono (fun x q => by omega)), x5, k3, (h.wz.out g2 (by omega)).out k2 (by omega), by omega, by omega, hl24, ?_⟩ hpow (by omega)⟩
        rw [show (l + 1).toNat = l.toNat + 1 by omega, Nat.pow_succ, Nat.mul_assoc, hxx, hyy, ← g_two hev hey]
        exact h.eq
      · have hoy : xn M3 (u + 13) % 2 = 1 := by split at hy' <;> omega
        exact gcI_42 hS hN (by omega) _ M3 l h (Or.inr hoy) (Nat.le_refl _)
    · have hox : xn M2 (u + 11) % 2 = 1 := by split at hx <;> omega
      exact gcI_42 hS hN (by omega) _ M2 l h (Or.inl hox) (Nat.le_refl _)
end SU
end
end
section
section
/-! The reference's sums: fractions in lowest terms. -/
def Fk (M : mM) (f : Nat) : Prop := mK M f = 19 ∧ mR M f 0 = f + 1 ∧ mR M f 1 = f + 3
theorem Fk.fi {S : Nat → Prop} {M M' : mM} {f : Nat} (h : Fk M f) (k : FI S M M') : Fk M' f := by
  obtain ⟨f1, f2, f3, -⟩ := k
  unfold Fk at h ⊢
  rw [f1, f3]
  exact h
def Fq (M : mM) (f r : Nat) : Prop := Fk M f ∧ W3 M (f + 1) r ∧ W3 M (f + 3) r ∧ (mI M f 2 = 0 ∨ mI M f 2 = 1) ∧ 0 < wv M (f + 3)
def Fc (M : mM) (f : Nat) : Prop := Nat.gcd (xn M (f + 1)) (xn M (f + 3)) = 1 ∧ (wv M (f + 1) = 0 → mI M f 2 = 0)
def sn (M : mM) (f : Nat) : Int := if mI M f 2 = 1 then - wv M (f + 1) else wv M (f + 1)
def sd (M : mM) (f : Nat) : Int := wv M (f + 3)
theorem Fq.out {S : Nat → Prop} {M M' : mM} {f r : Nat} (h : Fq M f r) (k : FI S M M') (hs : ∀ x, S x → x < f ∨ f + 4 < x) : Fq M' f r ∧ sn M' f = sn M f ∧ sd M' f = sd M f ∧ wv M' (f + 1) = wv M (f + 1) ∧ wv M' (f + 3) = wv M (f + 3) ∧ mI M' f = mI M f := by
  obtain ⟨h1, h2, h3, h4, h5⟩ := h
  have e1 := h2.out k (fun q => by have := hs _ q; omega) (fun q => by have := hs _ q; omega)
  have e2 := h3.out k (fun q => by have := hs _ q; omega) (fun q => by have := hs _ q; omega)
  have e3 : mI M' f = mI M f := k.2.2.2.2.2.2 f (fun q => by have := hs _ q; omega)
  refine ⟨⟨h1.fi k, e1.1, e2.1, by rw [e3]; exact h4, by rw [e2.2]; exact h5⟩, ?_, ?_, e1.2, e2.2, e3⟩
  · unfold sn; rw [e3, e1.2]
  · unfold sd; rw [e2.2]
abbrev szL : List Nat := [2, 4, 7, 9, 11, 13, 15, 17, 19]
def Sz (M : mM) (u : Nat) : Prop := Sk M u ∧ Fk M (u + 1) ∧ Fk M (u + 6) ∧ ∀ c, c ∈ szL → Wh M (u + c) 900
theorem Sz.wh {M : mM} {u : Nat} (h : Sz M u) (c : Nat) (hc : c ∈ szL) : Wh M (u + c) 900 := h.2.2.2 c hc
theorem Sz.step {M M' : mM} {u c a : Nat} (h : Sz M u) (hc : c ∈ szL) (ha : a = u + c) (f : FI (fun x => x = a ∨ x = a + 1) M M') (w : Wh M' a 900) : Sz M' u := by
  subst ha
  refine ⟨h.1.fi f, h.2.1.fi f, h.2.2.1.fi f, fun e he => ?_⟩
  by_cases q : e = c
  · rw [q]; exact w
  · refine (h.wh e he).out f ?_
    have h1 : ∀ e ∈ szL, ∀ c ∈ szL, e ≠ c + 1 := by decide
    have h2 := h1 e he c hc
    omega
theorem Sz.flag {M : mM} {u : Nat} {x : Int} (h : Sz M u) : Sz (mUI M (u + 1) 2 x) u := by
  have f : FI (fun x => x = u + 1) M (mUI M (u + 1) 2 x) := FI.ui rfl
  refine ⟨h.1.fi f, h.2.1.fi f, h.2.2.1.fi f, fun e he => (h.wh e he).out f ?_⟩
  have h1 : ∀ e ∈ szL, e ≠ 1 := by decide
  have h2 := h1 e he
  omega
theorem Sz.tp {M : mM} {u : Nat} (h : Sz M u) : mR M (u + 1) 0 = u + 2 := h.2.1.2.1
theorem Sz.bt {M : mM} {u : Nat} (h : Sz M u) : mR M (u + 1) 1 = u + 4 := h.2.1.2.2
theorem Fq.mo {S : Nat → Prop} {M M' : mM} {u r : Nat} (h : Fq M (u + 1) r) (k : FI S M M') (hs : ∀ x, S x → x < u + 1 ∨ u + 5 < x) : Fq M' (u + 1) r ∧ W3 M' (u + 2) r ∧ W3 M' (u + 4) r ∧ wv M' (u + 2) = wv M (u + 2) ∧ wv M' (u + 4) = wv M (u + 4) ∧ mI M' (u + 1) = mI M (u + 1) := by
  obtain ⟨h1, h2, h3, h4, h5, h6⟩ := h.out k hs
  exact ⟨h1, h1.2.1, h1.2.2.1, h4, h5, h6⟩
abbrev sS (u : Nat) : Nat → Prop := fun x => (u + 1 ≤ x ∧ x ≤ u + 5) ∨ (u + 11 ≤ x ∧ x ≤ u + 20)
abbrev stQ (M : mM) (u : Nat) : mM → Prop := fun M' => mOk M' ∧ FI (sS u) M M' ∧ Sz M' u ∧ Fq M' (u + 1) 900 ∧ Fc M' (u + 1) ∧ sn M' (u + 1) * sd M (u + 1) = sn M (u + 1) * sd M' (u + 1)
section SU
variable {G : mG} {d u : Nat} {M : mM}
theorem s_MU_settle (hO : mOk M) (hZ : Sz M u) (hF : Fq M (u + 1) 900) (s1 : mI M (u + 2) 1 < 900) (s2 : mI M (u + 4) 1 < 900) :
    Cv G y_MU_settle (d + 3) [vr u] M (stQ M u) := by
  have hF0 := hF
  have f1 := hF.1
  have f2 : W3 M (u + 2) 900 := hF.2.1
  have f3 : W3 M (u + 4) 900 := hF.2.2.1
  have f4 := hF.2.2.2.1
  have f5 : 0 < wv M (u + 4) := hF.2.2.2.2
  clear hF
  have S0 := hZ.1
  refine k_MU_settle hO ?_
  rw [S0.2.1, hZ.tp]
  refine ⟨S0.1, f1.1, f2.1.1, (s_MW_isZero hO f2.1).mono (fun x M1 h1 => ?_)⟩
  obtain ⟨e1, hx⟩ := h1
  subst e1
  have hz := f2.zero
  have ht0 := xn_eq f2
  have hb0 := xn_eq f3
  rw [S0.2.1, hZ.tp]
  refine ⟨⟨by split at hx <;> omega, by split at hx <;> omega⟩, hO, fun c => ⟨S0.1, f1.1, ?_⟩, fun c => ⟨S0.1, f1.1, fun M2 e2 => ?_⟩⟩
  · have hnz : wv M1 (u + 2) ≠ 0 := fun q => by have := hz.2 q; rw [if_pos this] at hx; omega
    have hn0 := f2.nonneg
    rw [S0.2.2.2.1]
    refine ⟨(hZ.wh 11 (by decide)).1, (s_MW_copy hO (hZ.wh 11 (by decide)) f2 (by omega) f2.1.2.2.2.2.2.2).mono (fun M2 h2 => ?_)⟩
    obtain ⟨g1, g2, g3, g4⟩ := h2
    have Z2 := hZ.step (c := 11) (by decide) rfl g2 g3.1
    have S2 := Z2.1
    have F2 := hF0.mo g2 (fun x q => by omega)
    refine ⟨g1, ?_⟩
    rw [S2.2.1, S2.2.2.2.2.1, Z2.bt]
    refine ⟨S2.1, Z2.2.1.1, (Z2.wh 13 (by decide)).1, (s_MW_copy g1 (Z2.wh 13 (by decide)) F2.2.2.1 (by omega) F2.2.2.1.1.2.2.2.2.2.2).mono (fun M3 h3 => ?_)⟩
    obtain ⟨k1, k2, k3, k4⟩ := h3
    have Z3 := Z2.step (c := 13) (by decide) rfl k2 k3.1
    have S3 := Z3.1
    have F3 := F2.1.mo k2 (fun x q => by omega)
    obtain ⟨x3, vx3⟩ := g3.out k2 (by omega) (by omega)
    have ex3 := xn_eq x3
    have ey3 := xn_eq k3
    have hf2 : wv M2 (u + 1 + 3) = wv M1 (u + 4) := F2.2.2.2.2.1
    have hxx : xn M3 (u + 11) = xn M1 (u + 2) := by omega
    have hyy : xn M3 (u + 13) = xn M1 (u + 4) := by omega
    have zz : mI M3 (u + 11) 1 < 900 := by have := x3.le f2 (by omega); omega
    refine ⟨k1, S3.1, (s_MU_common k1 S3 x3 k3 (Z3.wh 15 (by decide)) (by omega) zz).mono (fun M4 h4 => ?_)⟩
    obtain ⟨m1, m2, m3, m4, m5, m6⟩ := h4
    rw [hxx, hyy] at m6
    have F4 := F3.1.mo m2 (fun x q => by omega)
    have Z4 : Sz M4 u := ⟨S3.fi m2, Z3.2.1.fi m2, Z3.2.2.1.fi m2, fun c hc => by
      by_cases q1 : c = 11
      · rw [q1]; exact m3.1
      · by_cases q2 : c = 13
        · rw [q2]; exact m4.1
        · by_cases q3 : c = 15
          · rw [q3]; exact m5
          · refine (Z3.wh c hc).out m2 ?_
            have h1 : ∀ e ∈ szL, e = 11 ∨ e = 13 ∨ e = 15 ∨ e < 11 ∨ 16 < e := by decide
            have h2 := h1 c hc
            omega⟩
    have S4 := Z4.1
    have g0 : 0 < Nat.gcd (xn M1 (u + 2)) (xn M1 (u + 4)) := Nat.gcd_pos_of_pos_left _ (by omega)
    have FI4 : FI (sS u) M1 M4 := ((g2.mono (fun x q => by omega)).trans (k2.mono (fun x q => by omega))).trans (m2.mono (fun x q => by omega))
    have et4 : wv M4 (u + 2) = wv M1 (u + 2) := F4.2.2.2.1.trans (F3.2.2.2.1.trans F2.2.2.2.1)
    have eb4 : wv M4 (u + 4) = wv M1 (u + 4) := F4.2.2.2.2.1.trans (F3.2.2.2.2.1.trans F2.2.2.2.2.1)
    have ei4 : mI M4 (u + 1) = mI M1 (u + 1) := F4.2.2.2.2.2.trans (F3.2.2.2.2.2.trans F2.2.2.2.2.2)
    refine ⟨m1, ?_⟩
    rw [S4.2.2.2.1]
    refine ⟨S4.1, m3.1.1, (s_MW_isOne m1 m3).mono (fun y M5 h5 => ?_)⟩
    obtain ⟨e5, hy⟩ := h5
    subst e5
    refine ⟨⟨by split at hy <;> omega, by split at hy <;> omega⟩, m1, fun q => ⟨S4.1, ?_⟩, fun q => ⟨m1, FI4, Z4, F4.1, ⟨?_, ?_⟩, ?_⟩⟩
    · rw [S4.2.2.2.2.2.1, S4.2.2.2.1]
      have hgx := Nat.gcd_le_left (xn M1 (u + 4)) (show 0 < xn M1 (u + 2) by omega)
      refine ⟨(Z4.wh 15 (by decide)).1, (s_MW_copy m1 (Z4.wh 15 (by decide)) m3 (by omega) m3.1.2.2.2.2.2.2).mono (fun M6 h6 => ?_)⟩
      obtain ⟨n1, n2, n3, n4⟩ := h6
      have Z6 := Z4.step (c := 15) (by decide) rfl n2 n3.1
      have S6 := Z6.1
      have F6 := F4.1.mo n2 (fun x q => by omega)
      have FI6 : FI (sS u) M1 M6 := FI4.trans (n2.mono (fun x q => by omega))
      have et6 : wv M6 (u + 2) = wv M1 (u + 2) := F6.2.2.2.1.trans et4
      have eb6 : wv M6 (u + 4) = wv M1 (u + 4) := F6.2.2.2.2.1.trans eb4
      have ei6 : mI M6 (u + 1) = mI M1 (u + 1) := F6.2.2.2.2.2.trans ei4
      refine ⟨n1, S6.1, ?_⟩
      rw [S6.2.1, S6.2.2.2.2.2.1, Z6.tp]
      have z1 : mI M6 (u + 2) 1 < 900 := by have := F6.2.1.le f2 (by show wv M6 (u + 2) ≤ _; omega); omega
      have z2 : mI M6 (u + 15) 1 < 900 := by have := n3.le f2 (by omega); omega
      refine ⟨Z6.2.1.1, (s_MU_divide0 n1 S6 (Z6.wh 17 (by decide)) (Z6.wh 19 (by decide)) F6.2.1 n3 (by omega) (by omega) (by omega) z1 z2).mono (fun M7 h7 => ?_)⟩
      obtain ⟨o1, o2, o3, o4, o5, o6⟩ := h7
      have Z7 : Sz M7 u := ⟨S6.fi o2, Z6.2.1.fi o2, Z6.2.2.1.fi o2, fun c hc => by
        by_cases q1 : c = 17
        · rw [q1]; exact o3.1
        · by_cases q2 : c = 19
          · rw [q2]; exact o4.1
          · refine (Z6.wh c hc).out o2 ?_
            have h1 : ∀ e ∈ szL, e = 17 ∨ e = 19 ∨ e < 17 := by decide
            have h2 := h1 c hc
            omega⟩
      have S7 := Z7.1
      have F7 := F6.1.mo o2 (fun x q => by omega)
      obtain ⟨z7, vz7⟩ := n3.out o2 (by omega) (by omega)
      refine ⟨o1, S7.1, ?_⟩
      rw [S7.2.1, S7.2.2.2.2.2.2.1, Z7.tp]
      refine ⟨Z7.2.1.1, F7.2.1.1.1, (s_MW_copy o1 F7.2.1.1 o3 (by omega) o3.1.2.2.2.2.2.2).mono (fun M8 h8 => ?_)⟩
      obtain ⟨p1, p2, p3, p4⟩ := h8
      have p2' : FI (fun x => x = u + 2 ∨ x = u + 2 + 1) M7 M8 := p2
      have Z8 := Z7.step (c := 2) (by decide) rfl p2' p3.1
      have S8 := Z8.1
      obtain ⟨b8, vb8⟩ := F7.2.2.1.out p2 (by omega) (by omega)
      obtain ⟨z8, vz8⟩ := z7.out p2 (by omega) (by omega)
      have eb7 : wv M7 (u + 4) = wv M1 (u + 4) := F7.2.2.2.2.1.trans eb6
      have ei7 : mI M7 (u + 1) = mI M1 (u + 1) := F7.2.2.2.2.2.trans ei6
      have ei8 : mI M8 (u + 1) = mI M1 (u + 1) := (p2.2.2.2.2.2.2 (u + 1) (by omega)).trans ei7
      have eb8 : wv M8 (u + 4) = wv M1 (u + 4) := Eq.trans vb8 eb7
      refine ⟨p1, S8.1, ?_⟩
      rw [S8.2.1, S8.2.2.2.2.2.1, Z8.bt]
      have z3 : mI M8 (u + 4) 1 < 900 := by have := W3.le (M := M8) (a := u + 4) b8 f3 (by show wv M8 (u + 4) ≤ wv M1 (u + 4); omega); omega
      have z4 : mI M8 (u + 15) 1 < 900 := by have := z8.le f2 (by omega); omega
      refine ⟨Z8.2.1.1, (s_MU_divide0 p1 S8 (Z8.wh 17 (by decide)) (Z8.wh 19 (by decide)) b8 z8 (by omega) (by omega) (by omega) z3 z4).mono (fun M9 h9 => ?_)⟩
      obtain ⟨q1, q2, q3, q4, q5, q6⟩ := h9
      have Z9 : Sz M9 u := ⟨S8.fi q2, Z8.2.1.fi q2, Z8.2.2.1.fi q2, fun c hc => by
        by_cases w1 : c = 17
        · rw [w1]; exact q3.1
        · by_cases w2 : c = 19
          · rw [w2]; exact q4.1
          · refine (Z8.wh c hc).out q2 ?_
            have h1 : ∀ e ∈ szL, e = 17 ∨ e = 19 ∨ e < 17 := by decide
            have h2 := h1 c hc
            omega⟩
      have S9 := Z9.1
      obtain ⟨t9, vt9⟩ := p3.out q2 (by omega) (by omega)
      obtain ⟨b9, vb9⟩ := b8.out q2 (by omega) (by omega)
      have ei9 : mI M9 (u + 1) = mI M1 (u + 1) := (q2.2.2.2.2.2.2 (u + 1) (by omega)).trans ei8
      refine ⟨q1, S9.1, ?_⟩
      rw [S9.2.1, S9.2.2.2.2.2.2.1, Z9.bt]
      refine ⟨Z9.2.1.1, b9.1.1, (s_MW_copy q1 b9.1 q3 (by omega) q3.1.2.2.2.2.2.2).mono (fun M10 h10 => ?_)⟩
      obtain ⟨r1, r2, r3, r4⟩ := h10
      have r2' : FI (fun x => x = u + 4 ∨ x = u + 4 + 1) M9 M10 := r2
      have Z10 := Z9.step (c := 4) (by decide) rfl r2' r3.1
      obtain ⟨t10, vt10⟩ := t9.out r2 (by omega) (by omega)
      have ei10 : mI M10 (u + 1) = mI M1 (u + 1) := (r2.2.2.2.2.2.2 (u + 1) (by omega)).trans ei9
      have et10 := xn_eq t10
      have eb10 := xn_eq r3
      have tt : wv M10 (u + 2) = wv M1 (u + 2) / (Nat.gcd (xn M1 (u + 2)) (xn M1 (u + 4)) : Nat) := by
        rw [vt10, vt9, p4, o5, n4, m6]
        show wv M6 (u + 2) / _ = _
        rw [et6]
      have bb : wv M10 (u + 4) = wv M1 (u + 4) / (Nat.gcd (xn M1 (u + 2)) (xn M1 (u + 4)) : Nat) := by
        rw [r4, q5, vz8, vz7, n4, m6]
        show wv M8 (u + 4) / _ = _
        rw [eb8]
      have hdt : (Nat.gcd (xn M1 (u + 2)) (xn M1 (u + 4)) : Int) ∣ wv M1 (u + 2) := by
        rw [← ht0]
        exact Int.natCast_dvd_natCast.2 (Nat.gcd_dvd_left _ _)
      have hdb : (Nat.gcd (xn M1 (u + 2)) (xn M1 (u + 4)) : Int) ∣ wv M1 (u + 4) := by
        rw [show wv M1 (u + 4) = (xn M1 (u + 4) : Int) from hb0.symm]
        exact Int.natCast_dvd_natCast.2 (Nat.gcd_dvd_right _ _)
      have ct := Int.mul_ediv_cancel' hdt
      have cb := Int.mul_ediv_cancel' hdb
      rw [← tt] at ct
      rw [← bb] at cb
      have FI10 : FI (sS u) M1 M10 := ((((FI6.trans (o2.mono (fun x q => by omega))).trans (p2.mono (fun x q => by omega))).trans (q2.mono (fun x q => by omega))).trans (r2.mono (fun x q => by omega)))
      have hbp : 0 < wv M10 (u + 4) := by
        have h1 := r3.nonneg
        have h2 : wv M10 (u + 4) ≠ 0 := fun q => by rw [q, Int.mul_zero] at cb; have : wv M1 (u + 4) = 0 := cb.symm; have h5' : 0 < wv M1 (u + 4) := f5; omega
        omega
      refine ⟨r1, r1, FI10, Z10, ⟨Z10.2.1, t10, r3, by rw [ei10]; exact f4, hbp⟩, ⟨?_, ?_⟩, ?_⟩
      · have h1 : xn M10 (u + 2) = xn M1 (u + 2) / Nat.gcd (xn M1 (u + 2)) (xn M1 (u + 4)) := by
          have : ((xn M10 (u + 2) : Nat) : Int) = ((xn M1 (u + 2) / Nat.gcd (xn M1 (u + 2)) (xn M1 (u + 4)) : Nat) : Int) := by
            rw [et10, tt, Int.natCast_ediv, ht0]
          omega
        have h2 : xn M10 (u + 4) = xn M1 (u + 4) / Nat.gcd (xn M1 (u + 2)) (xn M1 (u + 4)) := by
          have : ((xn M10 (u + 4) : Nat) : Int) = ((xn M1 (u + 4) / Nat.gcd (xn M1 (u + 2)) (xn M1 (u + 4)) : Nat) : Int) := by
            rw [eb10, bb, Int.natCast_ediv, show wv M1 (u + 4) = (xn M1 (u + 4) : Int) from hb0.symm]
          omega
        rw [h1, h2]
        rw [Nat.gcd_div (Nat.gcd_dvd_left _ _) (Nat.gcd_dvd_right _ _)]
        exact Nat.div_self g0
      · intro w
        rw [w, Int.mul_zero] at ct
        exact absurd ct.symm hnz
      · unfold sn sd
        rw [ei10]
        show (if mI M1 (u + 1) 2 = 1 then -wv M10 (u + 2) else wv M10 (u + 2)) * wv M1 (u + 4) = (if mI M1 (u + 1) 2 = 1 then -wv M1 (u + 2) else wv M1 (u + 2)) * wv M10 (u + 4)
        rw [← ct, ← cb]
        split
        · rw [Int.neg_mul, Int.neg_mul, Int.mul_left_comm, Int.mul_assoc]
        · rw [Int.mul_left_comm, Int.mul_assoc]
    · have hone : wv M5 (u + 11) = 1 := by
        by_cases w : wv M5 (u + 11) = 1
        · exact w
        · rw [if_neg w] at hy; omega
      have h1 : xn M5 (u + 1 + 1) = xn M1 (u + 2) := by unfold xn; rw [show wv M5 (u + 1 + 1) = wv M1 (u + 2) from et4]
      have h2 : xn M5 (u + 1 + 3) = xn M1 (u + 4) := by unfold xn; rw [show wv M5 (u + 1 + 3) = wv M1 (u + 4) from eb4]
      rw [h1, h2]
      omega
    · intro w
      exact absurd (et4.symm.trans w) hnz
    · unfold sn sd
      rw [ei4, show wv M5 (u + 1 + 1) = wv M1 (u + 1 + 1) from et4, show wv M5 (u + 1 + 3) = wv M1 (u + 1 + 3) from eb4]
  · have hz0 : wv M1 (u + 2) = 0 := by
      refine hz.1 (Classical.byContradiction (fun w => ?_))
      have w' : ¬ mI M1 (u + 2) 1 = 0 := w
      rw [if_neg w'] at hx
      omega
    have f2' : FI (fun x => x = u + 1) M1 M2 := by rw [e2]; exact FI.ui rfl
    have Z2 : Sz M2 u := by rw [e2]; exact hZ.flag
    have S2 := Z2.1
    have o2 : mOk M2 := by rw [e2]; exact mOk_UI hO ⟨by omega, by omega⟩
    obtain ⟨t2, vt2⟩ := f2.out f2' (by omega) (by omega)
    rw [S2.2.1, Z2.bt]
    refine ⟨Z2.2.1.1, (Z2.wh 4 (by decide)).1, (s_MW_set (by omega) (by omega) ⟨by omega, by omega⟩ o2 (Z2.wh 4 (by decide)) (by omega)).mono (fun M3 h3 => ?_)⟩
    obtain ⟨k1, k2, k3, k4⟩ := h3
    have Z3 := Z2.step (c := 4) (by decide) rfl k2 k3.1
    obtain ⟨t3, vt3⟩ := t2.out k2 (by omega) (by omega)
    have ei : mI M3 (u + 1) 2 = 0 := by
      rw [k2.2.2.2.2.2.2 (u + 1) (by omega), e2, mI_UI, if_pos ⟨rfl, rfl⟩]
    have t30 : wv M3 (u + 1 + 1) = 0 := vt3.trans (vt2.trans hz0)
    have b31 : wv M3 (u + 1 + 3) = 1 := k4
    refine ⟨k1, k1, (f2'.mono (fun x q => by omega)).trans (k2.mono (fun x q => by omega)), Z3, ⟨Z3.2.1, t3, k3, Or.inl ei, by omega⟩, ⟨?_, fun _ => ei⟩, ?_⟩
    · unfold xn
      rw [t30, b31]
      rfl
    · unfold sn sd
      rw [t30, show wv M1 (u + 1 + 1) = 0 from hz0]
      simp
end SU
end
section
/-! The reference's sums: products, quotients, order. -/
theorem sn_mul {M : mM} {f : Nat} {c : Int} : sn M f * c = if mI M f 2 = 1 then - (wv M (f + 1) * c) else wv M (f + 1) * c := by
  unfold sn
  split
  · rw [Int.neg_mul]
  · rfl
theorem mul_lt_B {x y A B : Int} (hx : x < A) (hy : y < B) (h0 : 0 ≤ x) (h1 : 0 ≤ y) : x * y < A * B :=
  Int.lt_of_le_of_lt (Int.mul_le_mul_of_nonneg_left (Int.le_of_lt hy) h0) (Int.mul_lt_mul_of_pos_right hx (Int.lt_of_le_of_lt h1 hy))
abbrev suO (u a : Nat) : Prop := a + 4 < u + 11 ∨ u + 20 < a
abbrev suQ (M : mM) (u : Nat) (N D : Int) : mM → Prop := fun M' => mOk M' ∧ FI (sS u) M M' ∧ Sz M' u ∧ Fq M' (u + 1) 900 ∧ Fc M' (u + 1) ∧ sn M' (u + 1) * D = N * sd M' (u + 1)
section SU
variable {G : mG} {d u a b ra rb : Nat} {M : mM}
theorem sums_tail {Q : mM → Prop} (hO : mOk M) (hZ : Sz M u) (hx : W3 M (u + 11) 900) (hy : W3 M (u + 13) 900) (sx : mI M (u + 11) 1 < 900) (sy : mI M (u + 13) 1 < 900) (hy0 : 0 < wv M (u + 13)) (hf : mI M (u + 1) 2 = 0 ∨ mI M (u + 1) 2 = 1)
    (hQ : ∀ M', suQ M u (if mI M (u + 1) 2 = 1 then - wv M (u + 11) else wv M (u + 11)) (wv M (u + 13)) M' → Q M') :
    mK M (mR M u 0) = 19 ∧ mK M (mR M (mR M u 0) 0) = 20 ∧ Cv G y_MW_copy (d + 3) [vr (mR M (mR M u 0) 0), vr (mR M u 2)] M (fun M29 => mOk M29 ∧ (mK M29 u = 18 ∧ mK M29 (mR M29 u 0) = 19 ∧ mK M29 (mR M29 (mR M29 u 0) 1) = 20 ∧ Cv G y_MW_copy (d + 3) [vr (mR M29 (mR M29 u 0) 1), vr (mR M29 u 3)] M29 (fun M35 => mOk M35 ∧ (mK M35 u = 18 ∧ Cv G y_MU_settle (d + 3) [vr u] M35 (fun M39 => mOk M39 ∧ (Q M39)))))) := by
  rw [hZ.1.2.1, hZ.tp, hZ.1.2.2.2.1]
  refine ⟨hZ.2.1.1, (hZ.wh 2 (by decide)).1, (s_MW_copy hO (hZ.wh 2 (by decide)) hx (by omega) hx.1.2.2.2.2.2.2).mono (fun M1 h1 => ?_)⟩
  obtain ⟨g1, g2, g3, g4⟩ := h1
  have Z1 := hZ.step (c := 2) (by decide) rfl g2 g3.1
  obtain ⟨y1, vy1⟩ := hy.out g2 (by omega) (by omega)
  refine ⟨g1, Z1.1.1, ?_⟩
  rw [Z1.1.2.1, Z1.bt, Z1.1.2.2.2.2.1]
  refine ⟨Z1.2.1.1, (Z1.wh 4 (by decide)).1, (s_MW_copy g1 (Z1.wh 4 (by decide)) y1 (by omega) y1.1.2.2.2.2.2.2).mono (fun M2 h2 => ?_)⟩
  obtain ⟨k1, k2, k3, k4⟩ := h2
  have Z2 := Z1.step (c := 4) (by decide) rfl k2 k3.1
  obtain ⟨t2, vt2⟩ := g3.out k2 (by omega) (by omega)
  have e2 : mI M2 (u + 1) = mI M (u + 1) := (k2.2.2.2.2.2.2 (u + 1) (by omega)).trans (g2.2.2.2.2.2.2 (u + 1) (by omega))
  have z1 : mI M2 (u + 2) 1 < 900 := by have := t2.le hx (by omega); omega
  have z2 : mI M2 (u + 4) 1 < 900 := by have := k3.le hy (by omega); omega
  have F2 : Fq M2 (u + 1) 900 := ⟨Z2.2.1, t2, k3, by rw [e2]; exact hf, by show 0 < wv M2 (u + 4); omega⟩
  refine ⟨k1, Z2.1.1, (s_MU_settle k1 Z2 F2 z1 z2).mono (fun M3 h3 => ?_)⟩
  obtain ⟨m1, m2, m3, m4, m5, m6⟩ := h3
  refine ⟨m1, hQ M3 ⟨m1, ((g2.mono (fun x q => by omega)).trans (k2.mono (fun x q => by omega))).trans m2, m3, m4, m5, ?_⟩⟩
  unfold sn sd at m6
  rw [e2, show wv M2 (u + 1 + 1) = wv M (u + 11) from vt2.trans g4, show wv M2 (u + 1 + 3) = wv M (u + 13) from k4.trans vy1] at m6
  exact m6
theorem s_MU_multiply (hO : mOk M) (hZ : Sz M u) (hA : Fq M a ra) (hB : Fq M b rb) (oa : suO u a) (ob : suO u b)
    (z1 : mI M (a + 1) 1 + mI M (b + 1) 1 < 900) (z2 : mI M (a + 3) 1 + mI M (b + 3) 1 < 900) :
    Cv G y_MU_multiply (d + 4) [vr u, vr a, vr b] M (suQ M u (sn M a * sn M b) (sd M a * sd M b)) := by
  refine k_MU_multiply hO ?_
  rw [hZ.1.2.2.2.1, hA.1.2.1, hB.1.2.1]
  refine ⟨hZ.1.1, hA.1.1, hB.1.1, (hZ.wh 11 (by decide)).1, (s_MW_product hO (hZ.wh 11 (by decide)) hA.2.1 hB.2.1 (by omega) (by omega) (by omega)).mono (fun M1 h1 => ?_)⟩
  obtain ⟨g1, g2, g3, g4⟩ := h1
  have Z1 := hZ.step (c := 11) (by decide) rfl g2 g3.1
  have A1 := hA.out g2 (fun x q => by omega)
  have B1 := hB.out g2 (fun x q => by omega)
  have za : mI M1 (a + 3) 1 = mI M (a + 3) 1 := by rw [g2.2.2.2.2.2.2 (a + 3) (by omega)]
  have zb : mI M1 (b + 3) 1 = mI M (b + 3) 1 := by rw [g2.2.2.2.2.2.2 (b + 3) (by omega)]
  refine ⟨g1, Z1.1.1, A1.1.1.1, B1.1.1.1, ?_⟩
  rw [Z1.1.2.2.2.2.1, A1.1.1.2.2, B1.1.1.2.2]
  refine ⟨(Z1.wh 13 (by decide)).1, (s_MW_product g1 (Z1.wh 13 (by decide)) A1.1.2.2.1 B1.1.2.2.1 (by omega) (by omega) (by omega)).mono (fun M2 h2 => ?_)⟩
  obtain ⟨k1, k2, k3, k4⟩ := h2
  have Z2 := Z1.step (c := 13) (by decide) rfl k2 k3.1
  have A2 := A1.1.out k2 (fun x q => by omega)
  have B2 := B1.1.out k2 (fun x q => by omega)
  obtain ⟨x2, vx2⟩ := g3.out k2 (by omega) (by omega)
  have sx : mI M2 (u + 11) 1 < 900 := by
    have h1 : wv M2 (u + 11) < 16777216 ^ ((mI M (a + 1) 1).toNat + (mI M (b + 1) 1).toNat) := by
      rw [vx2, g4, Int.pow_add]
      exact mul_lt_B hA.2.1.lt hB.2.1.lt hA.2.1.nonneg hB.2.1.nonneg
    have h2 := x2.size h1
    have h3 := hA.2.1.1.2.2.2.2.2.1
    have h4 := hB.2.1.1.2.2.2.2.2.1
    omega
  have sy : mI M2 (u + 13) 1 < 900 := by
    have h1 : wv M2 (u + 13) < 16777216 ^ ((mI M1 (a + 3) 1).toNat + (mI M1 (b + 3) 1).toNat) := by
      rw [k4, Int.pow_add]
      exact mul_lt_B A1.1.2.2.1.lt B1.1.2.2.1.lt A1.1.2.2.1.nonneg B1.1.2.2.1.nonneg
    have h2 := k3.size h1
    have h3 := A1.1.2.2.1.1.2.2.2.2.2.1
    have h4 := B1.1.2.2.1.1.2.2.2.2.2.1
    omega
  refine ⟨k1, Z2.1.1, A2.1.1.1, B2.1.1.1, fun v hv => ⟨by rw [Z2.1.2.1]; exact Z2.2.1.1, fun M3 e3 => ?_⟩⟩
  rw [Z2.1.2.1] at e3
  have hv01 : v = 0 ∨ v = 1 := by split at hv <;> omega
  have Z3 : Sz M3 u := by rw [e3]; exact Z2.flag
  have f3 : FI (fun x => x = u + 1) M2 M3 := by rw [e3]; exact FI.ui rfl
  have o3 : mOk M3 := by rw [e3]; exact mOk_UI k1 ⟨by omega, by omega⟩
  have v3 : mI M3 (u + 1) 2 = v := by rw [e3, mI_UI, if_pos ⟨rfl, rfl⟩]
  obtain ⟨x3, vx3⟩ := x2.out f3 (by omega) (by omega)
  obtain ⟨y3, vy3⟩ := k3.out f3 (by omega) (by omega)
  have zx3 : mI M3 (u + 11) 1 < 900 := by have := x3.le x2 (by omega); omega
  have zy3 : mI M3 (u + 13) 1 < 900 := by have := y3.le k3 (by omega); omega
  have hd1 : wv M3 (u + 13) = sd M a * sd M b := by
    rw [vy3, k4]
    show sd M1 a * sd M1 b = _
    rw [A1.2.2.1, B1.2.2.1]
  refine sums_tail o3 Z3 x3 y3 zx3 zy3 (by rw [hd1]; exact Int.mul_pos hA.2.2.2.2 hB.2.2.2.2) (by omega) (fun M' h' => ?_)
  obtain ⟨n1, n2, n3, n4, n5, n6⟩ := h'
  refine ⟨n1, (((g2.mono (fun x q => by omega)).trans (k2.mono (fun x q => by omega))).trans (f3.mono (fun x q => by omega))).trans n2, n3, n4, n5, ?_⟩
  rw [hd1] at n6
  rw [n6]
  congr 1
  rw [v3, vx3, vx2, g4, sn_mul]
  rw [A2.2.2.2.2.2, B2.2.2.2.2.2, A1.2.2.2.2.2, B1.2.2.2.2.2] at hv
  have ha := hA.2.2.2.1
  have hb := hB.2.2.2.1
  unfold sn
  rcases ha with p | p <;> rcases hb with q | q <;> simp [p, q] at hv ⊢ <;> simp [hv, Int.mul_neg, Int.neg_mul]
theorem s_MU_divide1 (hO : mOk M) (hZ : Sz M u) (hA : Fq M a ra) (hB : Fq M b rb) (oa : suO u a) (ob : suO u b) (hb0 : sn M b ≠ 0)
    (z1 : mI M (a + 1) 1 + mI M (b + 3) 1 < 900) (z2 : mI M (a + 3) 1 + mI M (b + 1) 1 < 900) :
    Cv G y_MU_divide1 (d + 4) [vr u, vr a, vr b] M (suQ M u (sn M a * sd M b) (sd M a * sn M b)) := by
  have hbt : 0 < wv M (b + 1) := by
    have h1 := hB.2.1.nonneg
    have h2 : wv M (b + 1) ≠ 0 := fun q => hb0 (by unfold sn; rw [q]; simp)
    omega
  refine k_MU_divide1 hO ?_
  rw [hZ.1.2.2.2.1, hA.1.2.1, hB.1.2.2]
  refine ⟨hZ.1.1, hA.1.1, hB.1.1, (hZ.wh 11 (by decide)).1, (s_MW_product hO (hZ.wh 11 (by decide)) hA.2.1 hB.2.2.1 (by omega) (by omega) (by omega)).mono (fun M1 h1 => ?_)⟩
  obtain ⟨g1, g2, g3, g4⟩ := h1
  have Z1 := hZ.step (c := 11) (by decide) rfl g2 g3.1
  have A1 := hA.out g2 (fun x q => by omega)
  have B1 := hB.out g2 (fun x q => by omega)
  have za : mI M1 (a + 3) 1 = mI M (a + 3) 1 := by rw [g2.2.2.2.2.2.2 (a + 3) (by omega)]
  have zb : mI M1 (b + 1) 1 = mI M (b + 1) 1 := by rw [g2.2.2.2.2.2.2 (b + 1) (by omega)]
  refine ⟨g1, Z1.1.1, A1.1.1.1, B1.1.1.1, ?_⟩
  rw [Z1.1.2.2.2.2.1, A1.1.1.2.2, B1.1.1.2.1]
  refine ⟨(Z1.wh 13 (by decide)).1, (s_MW_product g1 (Z1.wh 13 (by decide)) A1.1.2.2.1 B1.1.2.1 (by omega) (by omega) (by omega)).mono (fun M2 h2 => ?_)⟩
  obtain ⟨k1, k2, k3, k4⟩ := h2
  have Z2 := Z1.step (c := 13) (by decide) rfl k2 k3.1
  have A2 := A1.1.out k2 (fun x q => by omega)
  have B2 := B1.1.out k2 (fun x q => by omega)
  obtain ⟨x2, vx2⟩ := g3.out k2 (by omega) (by omega)
  have sx : mI M2 (u + 11) 1 < 900 := by
    have h1 : wv M2 (u + 11) < 16777216 ^ ((mI M (a + 1) 1).toNat + (mI M (b + 3) 1).toNat) := by
      rw [vx2, g4, Int.pow_add]
      exact mul_lt_B hA.2.1.lt hB.2.2.1.lt hA.2.1.nonneg hB.2.2.1.nonneg
    have h2 := x2.size h1
    have h3 := hA.2.1.1.2.2.2.2.2.1
    have h4 := hB.2.2.1.1.2.2.2.2.2.1
    omega
  have sy : mI M2 (u + 13) 1 < 900 := by
    have h1 : wv M2 (u + 13) < 16777216 ^ ((mI M1 (a + 3) 1).toNat + (mI M1 (b + 1) 1).toNat) := by
      rw [k4, Int.pow_add]
      exact mul_lt_B A1.1.2.2.1.lt B1.1.2.1.lt A1.1.2.2.1.nonneg B1.1.2.1.nonneg
    have h2 := k3.size h1
    have h3 := A1.1.2.2.1.1.2.2.2.2.2.1
    have h4 := B1.1.2.1.1.2.2.2.2.2.1
    omega
  refine ⟨k1, Z2.1.1, A2.1.1.1, B2.1.1.1, fun v hv => ⟨by rw [Z2.1.2.1]; exact Z2.2.1.1, fun M3 e3 => ?_⟩⟩
  rw [Z2.1.2.1] at e3
  have hv01 : v = 0 ∨ v = 1 := by split at hv <;> omega
  have Z3 : Sz M3 u := by rw [e3]; exact Z2.flag
  have f3 : FI (fun x => x = u + 1) M2 M3 := by rw [e3]; exact FI.ui rfl
  have o3 : mOk M3 := by rw [e3]; exact mOk_UI k1 ⟨by omega, by omega⟩
  have v3 : mI M3 (u + 1) 2 = v := by rw [e3, mI_UI, if_pos ⟨rfl, rfl⟩]
  obtain ⟨x3, vx3⟩ := x2.out f3 (by omega) (by omega)
  obtain ⟨y3, vy3⟩ := k3.out f3 (by omega) (by omega)
  have zx3 : mI M3 (u + 11) 1 < 900 := by have := x3.le x2 (by omega); omega
  have zy3 : mI M3 (u + 13) 1 < 900 := by have := y3.le k3 (by omega); omega
  have hd1 : wv M3 (u + 13) = wv M (a + 3) * wv M (b + 1) := by
    rw [vy3, k4, A1.2.2.2.2.1, B1.2.2.2.1]
  refine sums_tail o3 Z3 x3 y3 zx3 zy3 (by rw [hd1]; exact Int.mul_pos hA.2.2.2.2 hbt) (by omega) (fun M' h' => ?_)
  obtain ⟨n1, n2, n3, n4, n5, n6⟩ := h'
  refine ⟨n1, (((g2.mono (fun x q => by omega)).trans (k2.mono (fun x q => by omega))).trans (f3.mono (fun x q => by omega))).trans n2, n3, n4, n5, ?_⟩
  rw [hd1, v3, vx3, vx2, g4] at n6
  rw [A2.2.2.2.2.2, B2.2.2.2.2.2, A1.2.2.2.2.2, B1.2.2.2.2.2] at hv
  have ha := hA.2.2.2.1
  have hb := hB.2.2.2.1
  unfold sd at n6 ⊢
  rw [sn_mul (f := a)]
  have e6 : wv M (a + 3) * sn M b = if mI M b 2 = 1 then - (wv M (a + 3) * wv M (b + 1)) else wv M (a + 3) * wv M (b + 1) := by
    unfold sn
    split
    · rw [Int.mul_neg]
    · rfl
  rw [e6]
  rcases ha with p | p <;> rcases hb with q | q <;> simp [p, q] at hv ⊢ <;> simp [hv] at n6
  all_goals (try simp only [Int.mul_neg, Int.neg_mul] at n6 ⊢)
  all_goals omega
theorem s_MU_compare (hO : mOk M) (hZ : Sz M u) (hA : Fq M a ra) (hB : Fq M b rb) (oa : suO u a) (ob : suO u b)
    (z1 : mI M (a + 1) 1 + mI M (b + 3) 1 ≤ 900) (z2 : mI M (b + 1) 1 + mI M (a + 3) 1 ≤ 900) :
    Ci G y_MU_compare (d + 2) [vr u, vr a, vr b] M (fun x M' => mOk M' ∧ FI (fun x => u + 11 ≤ x ∧ x ≤ u + 14) M M' ∧ Sz M' u ∧ x = if wv M (a + 1) * wv M (b + 3) < wv M (b + 1) * wv M (a + 3) then -1 else if wv M (a + 1) * wv M (b + 3) = wv M (b + 1) * wv M (a + 3) then 0 else 1) := by
  refine k_MU_compare hO ?_
  rw [hZ.1.2.2.2.1, hA.1.2.1, hB.1.2.2]
  refine ⟨hZ.1.1, hA.1.1, hB.1.1, (hZ.wh 11 (by decide)).1, (s_MW_product hO (hZ.wh 11 (by decide)) hA.2.1 hB.2.2.1 (by omega) (by omega) (by omega)).mono (fun M1 h1 => ?_)⟩
  obtain ⟨g1, g2, g3, g4⟩ := h1
  have Z1 := hZ.step (c := 11) (by decide) rfl g2 g3.1
  have A1 := hA.out g2 (fun x q => by omega)
  have B1 := hB.out g2 (fun x q => by omega)
  have za : mI M1 (a + 3) 1 = mI M (a + 3) 1 := by rw [g2.2.2.2.2.2.2 (a + 3) (by omega)]
  have zb : mI M1 (b + 1) 1 = mI M (b + 1) 1 := by rw [g2.2.2.2.2.2.2 (b + 1) (by omega)]
  refine ⟨g1, Z1.1.1, B1.1.1.1, A1.1.1.1, ?_⟩
  rw [Z1.1.2.2.2.2.1, A1.1.1.2.2, B1.1.1.2.1]
  refine ⟨(Z1.wh 13 (by decide)).1, (s_MW_product g1 (Z1.wh 13 (by decide)) B1.1.2.1 A1.1.2.2.1 (by omega) (by omega) (by omega)).mono (fun M2 h2 => ?_)⟩
  obtain ⟨k1, k2, k3, k4⟩ := h2
  have Z2 := Z1.step (c := 13) (by decide) rfl k2 k3.1
  obtain ⟨x2, vx2⟩ := g3.out k2 (by omega) (by omega)
  refine ⟨k1, Z2.1.1, ?_⟩
  rw [Z2.1.2.2.2.1, Z2.1.2.2.2.2.1]
  refine ⟨x2.1.1, (s_MW_compare k1 x2 k3).mono (fun x M3 h3 => ?_)⟩
  obtain ⟨e3, hx⟩ := h3
  subst e3
  rw [vx2, g4, k4, B1.2.2.2.1, A1.2.2.2.2.1] at hx
  refine ⟨⟨by split at hx <;> (try split at hx) <;> omega, by split at hx <;> (try split at hx) <;> omega⟩, k1, k1, (g2.mono (fun x q => by omega)).trans (k2.mono (fun x q => by omega)), Z2, hx⟩
end SU
end
end
