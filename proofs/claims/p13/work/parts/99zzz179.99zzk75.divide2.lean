/-! The family's division. -/
section NAN
variable {G : mG} {d a b c q e Y Cy s n m X Cx w : Nat} {M M' M1 M2 M3 : mM} {v : Int} {L : List Nat} {W : Nat → Nat} {T T' : Nat → Prop}
theorem NF.szm (h : NF L W M) (h' : NF L W M') (ha : a ∈ L) (hb : b ∈ L) (hv : nv M a ≤ nv M' b) : sz M a ≤ sz M' b := h.szv ha (Int.lt_of_le_of_lt hv (h'.vlt hb))
theorem NF.lts (h : NF L W M) (ha : a ∈ L) (hb : b ∈ L) (hs : sz M a < sz M b) : nv M a < nv M b := Classical.byContradiction (fun u => by
  have := h.szm h hb ha (by omega)
  omega)
theorem dv_fin {A B Q R sc r x : Int} (hs : 0 < sc) (e1 : sc * A = (sc * B) * Q + R) (hR : 0 ≤ R ∧ R < sc * B) (e2 : R = sc * r + x) (hx : 0 ≤ x ∧ x < sc) : A = B * Q + r ∧ r < B := by
  have h1 : sc * (A - B * Q - r) = x := by
    rw [Int.mul_sub, Int.mul_sub, e1, e2, Int.mul_assoc]
    omega
  have h2 : A - B * Q - r = 0 := by
    refine Classical.byContradiction (fun u => ?_)
    rcases (show 1 ≤ A - B * Q - r ∨ A - B * Q - r ≤ -1 by omega) with k | k
    · have := Int.mul_le_mul_of_nonneg_left k (Int.le_of_lt hs)
      omega
    · have := Int.mul_le_mul_of_nonneg_left k (Int.le_of_lt hs)
      omega
  refine ⟨by omega, ?_⟩
  have h3 : sc * r < sc * B := by omega
  exact Int.lt_of_mul_lt_mul_left h3 (Int.le_of_lt hs)
/-- the scale makes the divisor's highest limb large -/
theorem sc_top {k t : Nat} {V top low : Int} (hk : 2 ≤ k ∧ k ≤ 31) (eV : V = low + top * 2 ^ (30 * t)) (hl : 0 ≤ low ∧ low < 2 ^ (30 * t)) (q1 : 2 ^ (31 - k) ≤ top) (q2 : top < 2 ^ (32 - k)) : 2 ^ (k - 2) * V < 2 ^ (30 * (t + 1)) ∧ 536870912 * 2 ^ (30 * t) ≤ 2 ^ (k - 2) * V := by
  have e1 : (2 : Int) ^ (k - 2) * 2 ^ (32 - k) = 1073741824 := by rw [← Int.pow_add, show k - 2 + (32 - k) = 30 by omega]; decide
  have e2 : (2 : Int) ^ (k - 2) * 2 ^ (31 - k) = 536870912 := by rw [← Int.pow_add, show k - 2 + (31 - k) = 29 by omega]; decide
  have p0 : (0 : Int) < 2 ^ (k - 2) := Int.pow_pos (by decide)
  have p1 := p30p t
  have a1 : V < 2 ^ (32 - k) * 2 ^ (30 * t) := by
    have := Int.mul_le_mul_of_nonneg_right (show top + 1 ≤ 2 ^ (32 - k) by omega) (Int.le_of_lt p1)
    rw [Int.add_mul] at this
    omega
  have a2 : 2 ^ (31 - k) * 2 ^ (30 * t) ≤ V := by
    have := Int.mul_le_mul_of_nonneg_right q1 (Int.le_of_lt p1)
    omega
  have a3 := Int.mul_lt_mul_of_pos_left a1 p0
  have a4 := Int.mul_le_mul_of_nonneg_left a2 (Int.le_of_lt p0)
  rw [← Int.mul_assoc, e1] at a3
  rw [← Int.mul_assoc, e2] at a4
  rw [p30]
  exact ⟨by omega, a4⟩
theorem sc_bd {k : Nat} (hk : 2 ≤ k ∧ k ≤ 31) : (1 : Int) ≤ 2 ^ (k - 2) ∧ (2 : Int) ^ (k - 2) < 1073741824 := by
  have h1 : (0 : Int) < 2 ^ (k - 2) := Int.pow_pos (by decide)
  have h2 := p2m (m := k - 2) (k := 29) (by omega)
  have h3 : (2 : Int) ^ 29 = 536870912 := by decide
  omega
/-- a small divisor -/
theorem f_dvOne (hO : mOk M) (hF : NF L W M) (ha : a ∈ L) (hb : b ∈ L) (hq : q ∈ L) (ab : a ≠ b) (aq : a ≠ q) (bq : b ≠ q) (wq : sz M a ≤ W q) (s1 : sz M b = 1) : mK M q = 10 ∧ Cv G y_Na_put1 (d + 2) [vr q, vr a] M (fun M16 => mOk M16 ∧ (mK M16 b = 10 ∧ mK M16 (mR M16 b 0) = 30 ∧ ((0 : Int) ≤ 0 ∧ 0 < (mN M16 (mR M16 b 0) : Int)) ∧ mK M16 q = 10 ∧ Ci G y_Na_divideSmall (d + 2) [vr q, vi (mI M16 (mR M16 b 0) 0)] M16 (fun x24 M23 => i32 x24 ∧ mOk M23 ∧ (mK M23 a = 10 ∧ Cv G y_Na_put0 (d + 2) [vr a, vi x24] M23 (fun M27 => mOk M27 ∧ (NC L W (fun x => x = a ∨ x = q) M M27 ∧ nv M a = nv M b * nv M27 q + nv M27 a ∧ nv M27 a < nv M b)))))) := by
  have hTL : ∀ t, (t = a ∨ t = q) → t ∈ L := fun t u => u.elim (fun u => by rw [u]; exact ha) (fun u => by rw [u]; exact hq)
  refine ⟨hF.kd hq, (f_put1 hO hF hq ha (fun u => aq u.symm) wq).mono (fun M16 k => ?_)⟩
  obtain ⟨c1, v1⟩ := k
  have F1 := c1.nf
  obtain ⟨-, -, -, nb4, nb5, -⟩ := c1.num hF hb bq
  obtain ⟨-, -, -, na4, na5, -⟩ := c1.num hF ha aq
  have tb := F1.nt hb
  have lb0 := tb.2.2.2.1 0 (by rw [nb4, s1]; decide)
  have nz : mI M16 (mR M16 b 0) 0 ≠ 0 := by
    have := tb.2.2.2.2 (by rw [nb4, s1]; decide)
    rw [nb4, s1] at this
    exact this
  have vb : nv M b = mI M16 (mR M16 b 0) 0 := by
    rw [← nb5]
    unfold nv
    rw [nb4, s1]
    show 0 + mI M16 (mR M16 b 0) 0 * 2 ^ (30 * 0) = _
    rw [show (2 : Int) ^ (30 * 0) = 1 by decide]
    omega
  have cpb := tb.1.2.2.2.2.1.1
  refine ⟨c1.ok, F1.kd hb, F1.ka hb, ⟨by omega, by unfold cp at cpb; omega⟩, F1.kd hq, (f_divideSmall (dv := mI M16 (mR M16 b 0) 0) ⟨by omega, lb0.2⟩ c1.ok F1 hq).mono (fun x M23 k => ?_)⟩
  obtain ⟨c2, hx, v2⟩ := k
  have F2 := c2.nf
  refine ⟨⟨by omega, by omega⟩, c2.ok, F2.kd ha, (f_put0 ⟨hx.1, by omega⟩ c2.ok F2 ha).mono (fun M27 k => ?_)⟩
  obtain ⟨c3, v3⟩ := k
  obtain ⟨-, -, -, -, nq5, -⟩ := c3.num F2 hq (fun u => aq u.symm)
  refine ⟨c3.ok, ((c1.mono (fun _ u => Or.inr u) hTL hF).trans (c2.mono (fun _ u => Or.inr u) hTL F1)).trans (c3.mono (fun _ u => Or.inl u) hTL F2), ?_, ?_⟩
  · rw [vb, nq5, v3, ← v1, v2]
  · rw [v3, vb]; exact hx.2
/-- the window at the start -/
theorem dv_win {P : Nat} {V : Int} (hL : lim M Y (m + 1)) (z : mI M Y m = 0) (eP : P + (n + 1) = m + 1) (hV : 2 ^ (30 * n) ≤ V) : wn M Y P (n + 1) < V := by
  rw [wn_s, show P + n = m by omega, z, Int.zero_mul, Int.add_zero]
  exact Int.lt_of_lt_of_le (wn_lt hL (by omega)) hV
theorem dv_top {n : Nat} {f : Nat → Int} (hf : lms f (n + 1)) (h : 536870912 * 2 ^ (30 * n) ≤ dn f (n + 1)) : 1073741824 ≤ 2 * f n := by
  rw [dn_s] at h
  have h1 := dn_lt (n := n) (fun j hj => hf j (by omega))
  refine Classical.byContradiction (fun u => ?_)
  have h2 := Int.mul_le_mul_of_nonneg_right (show f n ≤ 536870911 by omega) (Int.le_of_lt (p30p n))
  omega
end NAN
