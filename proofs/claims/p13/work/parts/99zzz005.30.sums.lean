/-! The reference's sums: bring, divide. -/
def Sk (M : mM) (u : Nat) : Prop := mK M u = 18 ∧ mR M u 0 = u + 1 ∧ mR M u 1 = u + 6 ∧ mR M u 2 = u + 11 ∧ mR M u 3 = u + 13 ∧ mR M u 4 = u + 15 ∧ mR M u 5 = u + 17 ∧ mR M u 6 = u + 19
theorem Sk.fi {S : Nat → Prop} {M M' : mM} {u : Nat} (h : Sk M u) (f : FI S M M') : Sk M' u := by
  obtain ⟨f1, f2, f3, -⟩ := f
  unfold Sk at h ⊢
  rw [f1, f3]
  exact h
theorem W3.le {M : mM} {a r : Nat} {M2 : mM} {b r2 : Nat} (h : W3 M a r) (k : W3 M2 b r2) (hv : wv M a ≤ wv M2 b) : mI M a 1 ≤ mI M2 b 1 := by
  have h1 := h.size (k := (mI M2 b 1).toNat) (Int.lt_of_le_of_lt hv k.lt)
  have h2 := k.1.2.2.2.2.2.1
  omega
section SU
variable {G : mG} {d u a b r r2 : Nat} {M : mM}
theorem s_MU_bring {m : Int} (hm : m = 0 ∨ m = 1) (hO : mOk M) (hA : W3 M a r) (hr : mI M a 1 < r) (h3 : 3 ≤ r) : Cv G y_MU_bring (d + 1) [vr a, vi m] M (fun M' => mOk M' ∧ FI (fun x => x = a ∨ x = a + 1) M M' ∧ W3 M' a r ∧ wv M' a = 2 * wv M a + m) := by
  refine k_MU_bring hO ⟨by omega, by omega⟩ ⟨hA.1.1, ?_⟩
  refine (s_MW_isZero hO hA.1).mono (fun x M1 h1 => ?_)
  obtain ⟨e1, e2⟩ := h1
  subst e1
  have hz := hA.zero
  refine ⟨⟨by split at e2 <;> omega, by split at e2 <;> omega⟩, hO, fun hc => ⟨hA.1.1, ?_⟩, fun hc v hv => ⟨hA.1.1, ?_⟩⟩
  · refine (s_MW_twice hm hO hA hr (Or.inr (Or.inr trivial))).mono (fun M2 h2 => ?_)
    exact ⟨h2.1, h2⟩
  · have hv' : v = m := by rw [hv]; rcases hm with q | q <;> simp [q]
    have e0 : wv M1 a = 0 := by rw [← hz]; by_cases z : mI M1 a 1 = 0 <;> simp [z] at e2 <;> omega
    refine (s_MW_set (by omega) (by omega) ⟨by omega, by omega⟩ hO hA.1 h3).mono (fun M2 h2 => ?_)
    obtain ⟨g1, g2, g3, g4⟩ := h2
    exact ⟨g1, g1, g2, g3, by omega⟩
theorem half_pow (A : Int) (n : Nat) : A / 2 ^ (n + 1) = A / 2 ^ n / 2 := by
  have h : (0 : Int) < 2 ^ n := Int.pow_pos (by decide)
  rw [Int.pow_succ, Int.ediv_ediv, if_neg (fun q => by omega)]
  omega
theorem s_MU_divide0 (hO : mOk M) (hS : Sk M u) (hq : Wh M (u + 17) 900) (hs : Wh M (u + 19) 900) (hA : W3 M a r) (hB : W3 M b r2)
    (ha : a + 1 < u + 17 ∨ u + 20 < a) (hb : b + 1 < u + 17 ∨ u + 20 < b) (hb0 : 0 < wv M b) (sa : mI M a 1 < 900) (sb : mI M b 1 < 900) :
    Cv G y_MU_divide0 (d + 2) [vr u, vr a, vr b] M (fun M' => mOk M' ∧ FI (fun x => u + 17 ≤ x ∧ x ≤ u + 20) M M' ∧ W3 M' (u + 17) 900 ∧ W3 M' (u + 19) 900 ∧ wv M' (u + 17) = wv M a / wv M b ∧ wv M' (u + 19) = wv M a % wv M b) := by
  have hS0 := hS
  obtain ⟨s1, s2, s3, s4, s5, s6, s7, s8⟩ := hS
  refine k_MU_divide0 hO ?_
  rw [s7]
  refine ⟨s1, hq.1, (s_MW_set (by omega) (by omega) ⟨by omega, by omega⟩ hO hq (by omega)).mono (fun M1 h1 => ?_)⟩
  obtain ⟨g1, g2, g3, g4⟩ := h1
  have S1 := hS0.fi g2
  have hs1 : Wh M1 (u + 19) 900 := hs.out g2 (by omega)
  refine ⟨g1, ?_⟩
  rw [S1.2.2.2.2.2.2.2]
  refine ⟨S1.1, hs1.1, (s_MW_set (by omega) (by omega) ⟨by omega, by omega⟩ g1 hs1 (by omega)).mono (fun M2 h2 => ?_)⟩
  obtain ⟨k1, k2, k3, k4⟩ := h2
  have S2 := S1.fi k2
  have q2 := g3.out k2 (by omega) (by omega)
  have F2 : FI (fun x => u + 17 ≤ x ∧ x ≤ u + 20) M M2 := (g2.mono (fun x q => by omega)).trans (k2.mono (fun x q => by omega))
  have a2 := hA.out F2 (by omega) (by omega)
  have b2 := hB.out F2 (by omega) (by omega)
  refine ⟨k1, a2.1.1.1, (s_MW_places k1 a2.1).mono (fun x M3 h3 => ?_)⟩
  obtain ⟨e3, p1, p2, p3, p4⟩ := h3
  subst e3
  have r9 : (r : Int) < 100000 := by have := hA.1.2.2.2.2.1; omega
  refine ⟨⟨by omega, by omega⟩, k1, ?_⟩
  suffices H : ∀ (k : Nat) (l : Int) (M1 : mM), l + 1 = k → l < 2400000 → mOk M1 → FI (fun x => u + 17 ≤ x ∧ x ≤ u + 20) M M1 → W3 M1 (u + 17) 900 → W3 M1 (u + 19) 900 → wv M1 (u + 17) * wv M b + wv M1 (u + 19) = wv M a / 2 ^ k → wv M1 (u + 19) < wv M b → h_MU_divide0_23 G (d + 1) u a b l M1 (fun M' => mOk M' ∧ FI (fun x => u + 17 ≤ x ∧ x ≤ u + 20) M M' ∧ W3 M' (u + 17) 900 ∧ W3 M' (u + 19) 900 ∧ wv M' (u + 17) = wv M a / wv M b ∧ wv M' (u + 19) = wv M a % wv M b) by
    refine H x.toNat (x - 1) M3 (by omega) (by omega) k1 F2 q2.1 k3 ?_ (by omega)
    rw [q2.2, g4, k4, Int.ediv_eq_zero_of_lt hA.nonneg (by rw [← a2.2]; exact p3)]
    omega
  clear p1 p2 p3 p4 k3 k4 k2 k1 q2 a2 b2 S2 F2 g4 g3 g2 g1 S1 hs1 hs hq s2 s3 s4 s5 s6 s7 s8 s1
  intro k
  induction k with
  | zero =>
    intro l M1 hk hl hO1 F1 W1 W2 hv hlt
    refine k_MU_divide0_23 hO1 ⟨by omega, by omega⟩ ⟨fun _ => ⟨hO1, F1, W1, W2, ?_⟩, fun c => by omega⟩
    have h0 := W2.nonneg
    have e : wv M a = wv M1 (u + 17) * wv M b + wv M1 (u + 19) := by rw [hv]; simp
    rw [e]
    rw [Int.add_comm, Int.add_mul_ediv_right _ _ (by omega), Int.ediv_eq_zero_of_lt h0 hlt, Int.add_mul_emod_self_right, Int.emod_eq_of_lt h0 hlt]
    omega
  | succ k ih =>
    intro l M1 hk hl hO1 F1 W1 W2 hv hlt
    have S1 := hS0.fi F1
    obtain ⟨A1, ea⟩ := hA.out F1 (by omega) (by omega)
    obtain ⟨B1, eb⟩ := hB.out F1 (by omega) (by omega)
    have hlk : l.toNat = k := by omega
    refine k_MU_divide0_23 hO1 ⟨by omega, by omega⟩ ⟨fun c => by omega, fun _ => ⟨S1.1, A1.1.1, (s_MW_bit (by omega) ⟨by omega, by omega⟩ hO1 A1).mono (fun x M2 h2 => ?_)⟩⟩
    obtain ⟨e2, hx⟩ := h2
    subst e2
    have hx01 : x = 0 ∨ x = 1 := by split at hx <;> omega
    refine ⟨⟨by omega, by omega⟩, hO1, ?_⟩
    rw [S1.2.2.2.2.2.2.2]
    have sr : mI M2 (u + 19) 1 ≤ mI M2 b 1 := W2.le B1 (by omega)
    have zb : mI M2 b 1 = mI M b 1 := by rw [F1.2.2.2.2.2.2 b (by omega)]
    have za : mI M2 a 1 = mI M a 1 := by rw [F1.2.2.2.2.2.2 a (by omega)]
    refine (s_MU_bring hx01 hO1 W2 (by omega) (by omega)).mono (fun M3 h3 => ?_)
    obtain ⟨g1, g2, g3, g4⟩ := h3
    have S3 := S1.fi g2
    obtain ⟨Q3, eq3⟩ := W1.out g2 (by omega) (by omega)
    obtain ⟨B3, eb3⟩ := B1.out g2 (by omega) (by omega)
    refine ⟨g1, ?_⟩
    rw [S3.2.2.2.2.2.2.2]
    refine ⟨S3.1, g3.1.1, (s_MW_compare g1 g3 B3).mono (fun y M4 h4 => ?_)⟩
    obtain ⟨e4, hy⟩ := h4
    subst e4
    have F3 : FI (fun x => u + 17 ≤ x ∧ x ≤ u + 20) M M4 := F1.trans (g2.mono (fun x q => by omega))
    have hhalf := half_pow (wv M a) k
    rw [hhalf] at hv
    rw [ea, hlk] at hx
    have nq := W1.nonneg
    have nr := W2.nonneg
    have hXx : wv M a / 2 ^ k = 2 * (wv M a / 2 ^ k / 2) + x := by
      split at hx <;> omega
    have hXA : wv M a / 2 ^ k ≤ wv M a := Int.ediv_le_self _ hA.nonneg
    have hqA : wv M2 (u + 17) ≤ wv M a := by
      have : wv M2 (u + 17) * 1 ≤ wv M2 (u + 17) * wv M b := Int.mul_le_mul_of_nonneg_left (by omega) nq
      have : 0 ≤ wv M a / 2 ^ k := Int.ediv_nonneg hA.nonneg (Int.le_of_lt (Int.pow_pos (by decide)))
      omega
    have sq : mI M4 (u + 17) 1 ≤ mI M a 1 := Q3.le hA (by omega)
    refine ⟨⟨by split at hy <;> (try split at hy) <;> omega, by split at hy <;> (try split at hy) <;> omega⟩, g1, fun v hv31 => ⟨fun c => ⟨S3.1, ?_⟩, fun c => ⟨S3.1, by rw [S3.2.2.2.2.2.2.2]; exact g3.1.1, ?_⟩⟩⟩
    · rw [S3.2.2.2.2.2.2.1]
      have hyn : y < 0 := by split at hv31 <;> omega
      have hlt3 : wv M4 (u + 19) < wv M b := by
        split at hy
        · omega
        · split at hy <;> omega
      rw [c]
      refine (s_MU_bring (Or.inl rfl) g1 Q3 (by omega) (by omega)).mono (fun M5 h5 => ?_)
      obtain ⟨k1, k2, k3, k4⟩ := h5
      obtain ⟨R5, er5⟩ := g3.out k2 (by omega) (by omega)
      refine ⟨k1, ih (l + (-1)) M5 (by omega) (by omega) k1 (F3.trans (k2.mono (fun x q => by omega))) k3 R5 ?_ (by omega)⟩
      rw [k4, er5, g4, eq3, hXx, ← hv, Int.add_zero, Int.mul_assoc]
      omega
    · have hyn : ¬ y < 0 := by split at hv31 <;> omega
      have hge3 : wv M4 b ≤ wv M4 (u + 19) := by
        split at hy
        · omega
        · split at hy <;> omega
      have hv1 : v = 1 := by split at hv31 <;> omega
      rw [S3.2.2.2.2.2.2.2]
      refine (s_MW_less g1 g3 B3 (by omega) hge3).mono (fun M5 h5 => ?_)
      obtain ⟨k1, k2, k3, k4⟩ := h5
      obtain ⟨Q5, eq5⟩ := Q3.out k2 (by omega) (by omega)
      have S5 := S3.fi k2
      have zq : mI M5 (u + 17) 1 = mI M4 (u + 17) 1 := by rw [k2.2.2.2.2.2.2 (u + 17) (by omega)]
      refine ⟨k1, S5.1, ?_⟩
      rw [S5.2.2.2.2.2.2.1, hv1]
      refine (s_MU_bring (Or.inr rfl) k1 Q5 (by omega) (by omega)).mono (fun M6 h6 => ?_)
      obtain ⟨m1, m2, m3, m4⟩ := h6
      obtain ⟨R6, er6⟩ := k3.out m2 (by omega) (by omega)
      refine ⟨m1, ih (l + (-1)) M6 (by omega) (by omega) m1 ((F3.trans (k2.mono (fun x q => by omega))).trans (m2.mono (fun x q => by omega))) m3 R6 ?_ (by omega)⟩
      rw [m4, er6, k4, g4, eq5, eq3, hXx, ← hv, Int.add_mul, Int.mul_assoc]
      omega
end SU
