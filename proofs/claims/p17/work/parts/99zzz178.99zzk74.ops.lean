section
/-! The family's steps. -/
section NAM
variable {G : mG} {d a b c q e Y Cy s n m X Cx w : Nat} {M M' M1 M2 M3 : mM} {v : Int} {L : List Nat} {W : Nat → Nat} {T T' : Nat → Prop}
theorem s_Na_reserveV {Y' C' : Nat} (h : Nt M a Y Cy s) (o : mOk M1) (hl : Nl M1 a Y' C') (hC : Cy ≤ C') (F : FA (fun _ => False) (fun x => x = a) M M1) (I : ∀ j, j < Cy → mI M1 Y' j = mI M Y j) (g : rsv M a Y Cy w Y' C' M1) : nst M a Y Cy w (dn (mI M Y) s) M1 ∧ Nt M1 a Y' C' s := by
  obtain ⟨hl0, h1, h2, h3, h4⟩ := h
  have z1 := hl0.2.2.2.2.2.2.1
  have t : Nt M1 a Y' C' s := ⟨hl, by rw [(F.2 a z1).2.2.2.2 (fun u => u)]; exact h1, by omega, fun j hj => by rw [I j (by omega)]; exact h3 j hj, fun u => by rw [I _ (by omega)]; exact h4 u⟩
  exact ⟨nst_rs F g FI.refl o t (dn_cg s (fun j hj => I j (by omega))), t⟩
theorem f_reserve (hO : mOk M) (hF : NF L W M) (ha : a ∈ L) (hw : w ≤ W a) : Cv G y_Na_reserve (d + 2) [vr a, vi w] M (fun M' => NC L W (fun x => x = a) M M' ∧ nv M' a = nv M a ∧ sz M' a = sz M a ∧ w ≤ cp M' a) := by
  have h := hF.nt ha
  have hc := hF.cb ha
  have hs := hF.sw ha
  refine (s_Na_reserve hO h.1 (by omega) (by omega)).mono (fun M' k => ?_)
  obtain ⟨o, Y', C', hl, k1, k2, F, -, I, g⟩ := k
  obtain ⟨n1, t1⟩ := s_Na_reserveV h o hl k2 F I g
  obtain ⟨c1, c2⟩ := hF.step ha hw n1
  exact ⟨c1, c2, t1.sz, by rw [t1.cp]; exact k1⟩
theorem f_put0 {x : Int} (hx : 0 ≤ x ∧ x < 1073741824) (hO : mOk M) (hF : NF L W M) (ha : a ∈ L) : Cv G y_Na_put0 d [vr a, vi x] M (fun M' => NC L W (fun x => x = a) M M' ∧ nv M' a = x) :=
  (s_Na_put0v (w := 0) hx hO (hF.nt ha).1).mono (fun M' k => hF.step ha (Nat.zero_le _) k)
theorem f_putLong {x : Int} (hx : 0 ≤ x ∧ x < 1152921504606846976) (hO : mOk M) (hF : NF L W M) (ha : a ∈ L) : Cv G y_Na_putLong (d + 1) [vr a, vl x] M (fun M' => NC L W (fun x => x = a) M M' ∧ nv M' a = x) :=
  (s_Na_putLong (w := 0) hx hO (hF.nt ha).1).mono (fun M' k => hF.step ha (Nat.zero_le _) k)
theorem f_put1 (hO : mOk M) (hF : NF L W M) (ha : a ∈ L) (hb : b ∈ L) (ab : a ≠ b) (hw : sz M b ≤ W a) : Cv G y_Na_put1 (d + 1) [vr a, vr b] M (fun M' => NC L W (fun x => x = a) M M' ∧ nv M' a = nv M b) := by
  have hc := hF.cb ha
  have hs := hF.sw ha
  exact (s_Na_put1 hO (hF.nt ha).1 (hF.nt hb) ab (by omega) (by omega)).mono (fun M' k => hF.step ha hw k)
theorem f_multiply {f : Int} (hf : 1 ≤ f ∧ f < 1073741824) (hO : mOk M) (hF : NF L W M) (ha : a ∈ L) (hw : sz M a + 1 ≤ W a) : Cv G y_Na_multiply (d + 2) [vr a, vi f] M (fun M' => NC L W (fun x => x = a) M M' ∧ nv M' a = f * nv M a) := by
  have hc := hF.cb ha
  exact (s_Na_multiply hf hO (hF.nt ha) (by omega)).mono (fun M' k => hF.step ha hw k)
theorem f_add {f : Int} (hf : 0 ≤ f ∧ f < 1073741824) (hO : mOk M) (hF : NF L W M) (ha : a ∈ L) (hb : b ∈ L) (ab : a ≠ b) (h1 : sz M a + 1 ≤ W a) (h2 : sz M b + 1 ≤ W a) : Cv G y_Na_add (d + 3) [vr a, vr b, vi f] M (fun M' => NC L W (fun x => x = a) M M' ∧ nv M' a = nv M a + f * nv M b) := by
  have hc := hF.cb ha
  have hs := hF.sw ha
  by_cases u : sz M a ≤ sz M b
  · exact (s_Na_add (m := sz M b) hf hO (hF.nt ha) (hF.nt hb) ab (hF.ne ha hb ab) (by omega) u (Nat.le_refl _) (Or.inr rfl) (by omega)).mono (fun M' k => hF.step ha h2 k)
  · exact (s_Na_add (m := sz M a) hf hO (hF.nt ha) (hF.nt hb) ab (hF.ne ha hb ab) (by omega) (Nat.le_refl _) (by omega) (Or.inl rfl) (by omega)).mono (fun M' k => hF.step ha h1 k)
theorem f_putProduct (hO : mOk M) (hF : NF L W M) (ha : a ∈ L) (hb : b ∈ L) (hc : c ∈ L) (ab : a ≠ b) (ac : a ≠ c) (hw : sz M b + sz M c ≤ W a) : Cv G y_Na_putProduct (d + 3) [vr a, vr b, vr c] M (fun M' => NC L W (fun x => x = a) M M' ∧ nv M' a = nv M b * nv M c) := by
  have hcb := hF.cb ha
  have hs := hF.sw ha
  exact (s_Na_putProduct hO (hF.nt ha).1 (hF.nt hb) (hF.nt hc) ab ac (hF.ne ha hb ab) (hF.ne ha hc ac) (by omega) (by omega)).mono (fun M' k => hF.step ha hw k)
theorem f_divideSmall {dv : Int} (hd : 0 < dv ∧ dv < 1073741824) (hO : mOk M) (hF : NF L W M) (ha : a ∈ L) : Ci G y_Na_divideSmall d [vr a, vi dv] M (fun x M' => NC L W (fun x => x = a) M M' ∧ (0 ≤ x ∧ x < dv) ∧ nv M a = dv * nv M' a + x) := by
  refine (s_Na_divideSmall hd hO (hF.nt ha)).mono (fun x M' k => ?_)
  obtain ⟨hx, o, F, t, T, e⟩ := k
  obtain ⟨c1, c2⟩ := hF.step (w := 0) ha (Nat.zero_le _) (nst_fi T o F rfl)
  exact ⟨c1, hx, by rw [c2]; exact e⟩
/-- order, exactly -/
theorem or_pos {x y p f g : Int} (hx : 0 ≤ x ∧ x < p) (hy : 0 ≤ y ∧ y < p) (h : g < f) : y + g * p < x + f * p := by
  have := Int.mul_le_mul_of_nonneg_right (c := p) (show g + 1 ≤ f by omega) (by omega)
  rw [Int.add_mul] at this
  omega
def orQ (u v x : Int) : Prop := (x = 0 ∧ u = v) ∨ (x = 1 ∧ v < u) ∨ (x = -1 ∧ u < v)
theorem s_Na_orderV (hO : mOk M) (h : Nt M a Y Cy s) (k : Nt M b X Cx n) : Ci G y_Na_order d [vr a, vr b] M (fun x M' => M' = M ∧ orQ (dn (mI M Y) s) (dn (mI M X) n) x) := by
  obtain ⟨⟨k0, r0, kY, nY, ⟨c1, c2⟩, -⟩, h1, h2, h3, h4⟩ := h
  obtain ⟨⟨l0, p0, kX, nX, ⟨e1, e2⟩, -⟩, g1, g2, g3, g4⟩ := k
  refine k_Na_order hO ?_
  rw [h1, g1]
  refine ⟨k0, l0, fun y => ?_, fun y v7 e7 => ⟨rfl, ?_⟩⟩
  · have sn : s = n := by omega
    subst sn
    suffices HH : ∀ t : Nat, t ≤ s → dn (mI M Y) s - dn (mI M X) s = dn (mI M Y) t - dn (mI M X) t → h_Na_order_35 G d a b (((t : Nat) : Int) - 1) M (fun x M' => M' = M ∧ orQ (dn (mI M Y) s) (dn (mI M X) s) x) from HH s (Nat.le_refl _) rfl
    intro t
    induction t with
    | zero =>
      intro ht hd
      have e1 : dn (mI M Y) 0 = 0 := rfl
      have e2 : dn (mI M X) 0 = 0 := rfl
      exact k_Na_order_35 hO ⟨by omega, by omega⟩ ⟨fun _ => ⟨rfl, Or.inl ⟨rfl, by omega⟩⟩, fun y => absurd y (by omega)⟩
    | succ t ih =>
      intro ht hd
      refine k_Na_order_35 hO ⟨by omega, by omega⟩ ⟨fun y => absurd y (by omega), fun _ => ?_⟩
      rw [r0, p0, nY, nX, show Int.toNat (((t + 1 : Nat) : Int) - 1) = t by first | rfl | omega]
      have y1 : 0 ≤ dn (mI M Y) t ∧ dn (mI M Y) t < 2 ^ (30 * t) := ⟨dn_nn (fun j hj => h3 j (by omega)), dn_lt (fun j hj => h3 j (by omega))⟩
      have x1 : 0 ≤ dn (mI M X) t ∧ dn (mI M X) t < 2 ^ (30 * t) := ⟨dn_nn (fun j hj => g3 j (by omega)), dn_lt (fun j hj => g3 j (by omega))⟩
      rw [dn_s, dn_s] at hd
      refine ⟨k0, kY, by omega, l0, kX, by omega, fun y => ?_, fun y => ⟨by omega, by omega, fun v38 e38 => ⟨rfl, ?_⟩⟩⟩
      · rw [show ((t + 1 : Nat) : Int) - 1 + (-1) = ((t : Nat) : Int) - 1 by first | rfl | omega]
        rw [y] at hd
        exact ih (by omega) (by omega)
      · rw [e38]
        by_cases c : mI M X t ≤ mI M Y t
        · rw [if_pos c]
          have := or_pos y1 x1 (show mI M X t < mI M Y t by omega)
          exact Or.inr (Or.inl ⟨rfl, by omega⟩)
        · rw [if_neg c]
          have := or_pos x1 y1 (show mI M Y t < mI M X t by omega)
          exact Or.inr (Or.inr ⟨rfl, by omega⟩)
  · have big : ∀ {f g : Nat → Int} {s n : Nat}, lms f s → lms g n → (0 < n → g (n - 1) ≠ 0) → s < n → dn f s < dn g n := by
      intro f g s n hf hg h0 hs
      obtain ⟨t, rfl⟩ : ∃ t, n = t + 1 := ⟨n - 1, by omega⟩
      have a1 := dn_lt hf
      have a2 := dn_ge hg (h0 (by omega))
      have a3 := p30m (m := s) (k := t) (by omega)
      omega
    rw [e7]
    by_cases c : ((n : Nat) : Int) ≤ ((s : Nat) : Int)
    · rw [if_pos c]
      exact Or.inr (Or.inl ⟨rfl, big g3 h3 h4 (by omega)⟩)
    · rw [if_neg c]
      exact Or.inr (Or.inr ⟨rfl, big h3 g3 g4 (by omega)⟩)
theorem f_order (hO : mOk M) (hF : NF L W M) (ha : a ∈ L) (hb : b ∈ L) : Ci G y_Na_order d [vr a, vr b] M (fun x M' => M' = M ∧ orQ (nv M a) (nv M b) x) := s_Na_orderV hO (hF.nt ha) (hF.nt hb)
end NAM
end
section
/-! The family's division. -/
section NAN
variable {G : mG} {d a b c q e Y Cy s n m X Cx w : Nat} {M M' M1 M2 M3 : mM} {v : Int} {L : List Nat} {W : Nat → Nat} {T T' : Nat → Prop}
theorem NF.szm (h : NF L W M) (h' : NF L W M') (ha : a ∈ L) (hb : b ∈ L) (hv : nv M a ≤ nv M' b) : sz M a ≤ sz M' b := h.szv ha (Int.lt_of_le_of_lt hv (h'.vlt hb))
theorem NF.lts (h : NF L W M) (ha : a ∈ L) (hb : b ∈ L) (hs : sz M a < sz M b) : nv M a < nv M b := Classical.byContradiction (fun u => by
  have := h.szm h hb ha (by omega)
  omega)
theorem dv_fin {A B Q R sc r x : Int} (hs : 0 < sc) (e1 : sc * A = (sc * B) * Q + R) (hR : 0 ≤ R ∧ R < sc * B) (e2 : R = sc * r + x) (hx : 0 ≤ x ∧ x < sc) : A = B * Q + r ∧ r < B := by
  have h1 : sc * (A - B * Q - r) = x := by
    rw [Int.mul_sub, Int.mul_sub, e1, e2, Int.mul_assoc]
    omega
  have h2 : A - B * Q - r = 0 := by
    refine Classical.byContradiction (fun u => ?_)
    rcases (show 1 ≤ A - B * Q - r ∨ A - B * Q - r ≤ -1 by omega) with k | k
    · have := Int.mul_le_mul_of_nonneg_left k (Int.le_of_lt hs)
      omega
    · have := Int.mul_le_mul_of_nonneg_left k (Int.le_of_lt hs)
      omega
  refine ⟨by omega, ?_⟩
  have h3 : sc * r < sc * B := by omega
  exact Int.lt_of_mul_lt_mul_left h3 (Int.le_of_lt hs)
/-- the scale makes the divisor's highest limb large -/
theorem sc_top {k t : Nat} {V top low : Int} (hk : 2 ≤ k ∧ k ≤ 31) (eV : V = low + top * 2 ^ (30 * t)) (hl : 0 ≤ low ∧ low < 2 ^ (30 * t)) (q1 : 2 ^ (31 - k) ≤ top) (q2 : top < 2 ^ (32 - k)) : 2 ^ (k - 2) * V < 2 ^ (30 * (t + 1)) ∧ 536870912 * 2 ^ (30 * t) ≤ 2 ^ (k - 2) * V := by
  have e1 : (2 : Int) ^ (k - 2) * 2 ^ (32 - k) = 1073741824 := by rw [← Int.pow_add, show k - 2 + (32 - k) = 30 by first | rfl | omega]; decide
  have e2 : (2 : Int) ^ (k - 2) * 2 ^ (31 - k) = 536870912 := by rw [← Int.pow_add, show k - 2 + (31 - k) = 29 by first | rfl | omega]; decide
  have p0 : (0 : Int) < 2 ^ (k - 2) := Int.pow_pos (by decide)
  have p1 := p30p t
  have a1 : V < 2 ^ (32 - k) * 2 ^ (30 * t) := by
    have := Int.mul_le_mul_of_nonneg_right (show top + 1 ≤ 2 ^ (32 - k) by omega) (Int.le_of_lt p1)
    rw [Int.add_mul] at this
    omega
  have a2 : 2 ^ (31 - k) * 2 ^ (30 * t) ≤ V := by
    have := Int.mul_le_mul_of_nonneg_right q1 (Int.le_of_lt p1)
    omega
  have a3 := Int.mul_lt_mul_of_pos_left a1 p0
  have a4 := Int.mul_le_mul_of_nonneg_left a2 (Int.le_of_lt p0)
  rw [← Int.mul_assoc, e1] at a3
  rw [← Int.mul_assoc, e2] at a4
  rw [p30]
  exact ⟨by omega, a4⟩
theorem sc_bd {k : Nat} (hk : 2 ≤ k ∧ k ≤ 31) : (1 : Int) ≤ 2 ^ (k - 2) ∧ (2 : Int) ^ (k - 2) < 1073741824 := by
  have h1 : (0 : Int) < 2 ^ (k - 2) := Int.pow_pos (by decide)
  have h2 := p2m (m := k - 2) (k := 29) (by omega)
  have h3 : (2 : Int) ^ 29 = 536870912 := by decide
  omega
/-- a small divisor -/
theorem f_dvOne (hO : mOk M) (hF : NF L W M) (ha : a ∈ L) (hb : b ∈ L) (hq : q ∈ L) (ab : a ≠ b) (aq : a ≠ q) (bq : b ≠ q) (wq : sz M a ≤ W q) (s1 : sz M b = 1) : mK M q = 10 ∧ Cv G y_Na_put1 (d + 2) [vr q, vr a] M (fun M16 => mOk M16 ∧ (mK M16 b = 10 ∧ mK M16 (mR M16 b 0) = 30 ∧ ((0 : Int) ≤ 0 ∧ 0 < (mN M16 (mR M16 b 0) : Int)) ∧ mK M16 q = 10 ∧ Ci G y_Na_divideSmall (d + 2) [vr q, vi (mI M16 (mR M16 b 0) 0)] M16 (fun x24 M23 => i32 x24 ∧ mOk M23 ∧ (mK M23 a = 10 ∧ Cv G y_Na_put0 (d + 2) [vr a, vi x24] M23 (fun M27 => mOk M27 ∧ (NC L W (fun x => x = a ∨ x = q) M M27 ∧ nv M a = nv M b * nv M27 q + nv M27 a ∧ nv M27 a < nv M b)))))) := by
  have hTL : ∀ t, (t = a ∨ t = q) → t ∈ L := fun t u => u.elim (fun u => by rw [u]; exact ha) (fun u => by rw [u]; exact hq)
  refine ⟨hF.kd hq, (f_put1 hO hF hq ha (fun u => aq u.symm) wq).mono (fun M16 k => ?_)⟩
  obtain ⟨c1, v1⟩ := k
  have F1 := c1.nf
  obtain ⟨-, -, -, nb4, nb5, -⟩ := c1.num hF hb bq
  obtain ⟨-, -, -, na4, na5, -⟩ := c1.num hF ha aq
  have tb := F1.nt hb
  have lb0 := tb.2.2.2.1 0 (by rw [nb4, s1]; decide)
  have nz : mI M16 (mR M16 b 0) 0 ≠ 0 := by
    have := tb.2.2.2.2 (by rw [nb4, s1]; decide)
    rw [nb4, s1] at this
    exact this
  have vb : nv M b = mI M16 (mR M16 b 0) 0 := by
    rw [← nb5]
    unfold nv
    rw [nb4, s1]
    show 0 + mI M16 (mR M16 b 0) 0 * 2 ^ (30 * 0) = _
    rw [show (2 : Int) ^ (30 * 0) = 1 by decide]
    omega
  have cpb := tb.1.2.2.2.2.1.1
  refine ⟨c1.ok, F1.kd hb, F1.ka hb, ⟨by omega, by unfold cp at cpb; omega⟩, F1.kd hq, (f_divideSmall (dv := mI M16 (mR M16 b 0) 0) ⟨by omega, lb0.2⟩ c1.ok F1 hq).mono (fun x M23 k => ?_)⟩
  obtain ⟨c2, hx, v2⟩ := k
  have F2 := c2.nf
  refine ⟨⟨by omega, by omega⟩, c2.ok, F2.kd ha, (f_put0 ⟨hx.1, by omega⟩ c2.ok F2 ha).mono (fun M27 k => ?_)⟩
  obtain ⟨c3, v3⟩ := k
  obtain ⟨-, -, -, -, nq5, -⟩ := c3.num F2 hq (fun u => aq u.symm)
  refine ⟨c3.ok, ((c1.mono (fun _ u => Or.inr u) hTL hF).trans (c2.mono (fun _ u => Or.inr u) hTL F1)).trans (c3.mono (fun _ u => Or.inl u) hTL F2), ?_, ?_⟩
  · rw [vb, nq5, v3, ← v1, v2]
  · rw [v3, vb]; exact hx.2
/-- the window at the start -/
theorem dv_win {P : Nat} {V : Int} (hL : lim M Y (m + 1)) (z : mI M Y m = 0) (eP : P + (n + 1) = m + 1) (hV : 2 ^ (30 * n) ≤ V) : wn M Y P (n + 1) < V := by
  rw [wn_s, show P + n = m by first | rfl | omega, z, Int.zero_mul, Int.add_zero]
  exact Int.lt_of_lt_of_le (wn_lt hL (by omega)) hV
theorem dv_top {n : Nat} {f : Nat → Int} (hf : lms f (n + 1)) (h : 536870912 * 2 ^ (30 * n) ≤ dn f (n + 1)) : 1073741824 ≤ 2 * f n := by
  rw [dn_s] at h
  have h1 := dn_lt (n := n) (fun j hj => hf j (by omega))
  refine Classical.byContradiction (fun u => ?_)
  have h2 := Int.mul_le_mul_of_nonneg_right (show f n ≤ 536870911 by omega) (Int.le_of_lt (p30p n))
  omega
end NAN
end
section
/-! The family's division, as a whole. -/
section NAO
variable {G : mG} {d a b c q e Y Cy s n m X Cx w : Nat} {M M' M1 M2 M3 : mM} {v : Int} {L : List Nat} {W : Nat → Nat} {T T' : Nat → Prop}
theorem hm_dv {sc p t : Int} {Q Q' : mM → Prop} (h : h_Na_divide_134 G d a q e sc p t M Q) (hq : ∀ M', Q M' → Q' M') : h_Na_divide_134 G d a q e sc p t M Q' := by
  unfold h_Na_divide_134 at h ⊢
  exact mWm.mono h (fun r M' k => ⟨k.1, hq M' k.2⟩)
/-- a limb above the highest is cleared -/
theorem NF.wz (hF : NF L W M) (hO : mOk M) (ha : a ∈ L) (hc : sz M a < cp M a) (u : M' = mUI M (mR M a 0) (sz M a) 0) : NC L W (fun x => x = a) M M' ∧ mR M' a 0 = mR M a 0 ∧ nv M' a = nv M a ∧ sz M' a = sz M a ∧ cp M' a = cp M a ∧ mI M' (mR M a 0) (sz M a) = 0 := by
  have F : FI (fun x => x = mR M a 0) M M' := by rw [u]; exact FI.ui rfl
  have t := hF.nt ha
  have o : mOk M' := by rw [u]; exact mOk_UI hO ⟨by decide, by decide⟩
  have na := hF.na ha ha
  have ii : ∀ j, j < sz M a → mI M' (mR M a 0) j = mI M (mR M a 0) j := fun j hj => by rw [mI_ui _ j u, if_neg (fun y => by omega)]
  have t' : Nt M' a (mR M a 0) (cp M a) (sz M a) := ⟨t.1.fi F, by rw [F.2.2.2.2.2.2 a na]; exact t.2.1, t.2.2.1, fun j hj => by rw [ii j hj]; exact t.2.2.2.1 j hj, fun y => by rw [ii _ (by omega)]; exact t.2.2.2.2 y⟩
  refine ⟨hF.chg (fun t ht => by rw [ht]; exact ha) (F.mono (fun x y => Or.inr ⟨a, rfl, y⟩)) o (fun t ht => by rw [ht]; exact ⟨_, t'⟩), by rw [F.2.2.1], ?_, t'.sz, t'.cp, by rw [mI_ui _ _ u, if_pos ⟨rfl, rfl⟩]⟩
  rw [t'.nv]
  exact dn_cg _ ii
/-- from the loop on -/
theorem f_dvLoop {sc : Int} {P : Nat} (hsc : 1 ≤ sc ∧ sc < 1073741824) (hO : mOk M) (hF : NF L W M) (ha : a ∈ L) (hq : q ∈ L) (he : e ∈ L) (aq : a ≠ q) (ae : a ≠ e) (qe : q ≠ e) (hm : sz M a < cp M a) (z : mI M (mR M a 0) (sz M a) = 0) (hn : sz M e = n + 1) (n1 : 1 ≤ n) (eP : P + (n + 1) = sz M a + 1) (P0 : 0 < P) (hP : P ≤ cp M q) (top : 536870912 * 2 ^ (30 * n) ≤ nv M e) : h_Na_divide_134 G (d + 1) a q e sc P ((P : Int) - 1) M (fun M' => NC L W (fun x => x = a ∨ x = q) M M' ∧ ∃ R x, nv M a = nv M e * nv M' q + R ∧ (0 ≤ R ∧ R < nv M e) ∧ R = sc * nv M' a + x ∧ (0 ≤ x ∧ x < sc)) := by
  have ta := hF.nt ha
  have tq := hF.nt hq
  have te := hF.nt he
  rw [hn] at te
  have ev : nv M e = dn (mI M (mR M e 0)) (n + 1) := te.nv
  have hL : lim M (mR M a 0) (sz M a + 1) := fun j hj => by
    by_cases u : j < sz M a
    · exact ta.2.2.2.1 j u
    · rw [show j = sz M a by first | rfl | omega, z]; exact ⟨by decide, by decide⟩
  have V1 : 2 ^ (30 * n) ≤ nv M e := by have := p30p n; omega
  refine hm_dv (s_dv134 (P := P) (n := n + 1) (V := nv M e) (A := nv M a) (sc := sc) ⟨by omega, hsc.2⟩ ta.1 ta.2.1 (by omega) tq.1 hP eP (by omega) P0 te aq (hF.ne ha hq aq) ⟨hF.na he ha, hF.na he hq⟩ ⟨hF.ne he ha (fun u => ae u.symm), hF.ne he hq (fun u => qe u.symm)⟩ (show 1073741824 ≤ 2 * mI M (mR M e 0) n from dv_top te.2.2.2.1 (by rw [← ev]; exact top)) ev P M (Nat.le_refl _) hO FI.refl hL (fun j h1 h2 => absurd h2 (by omega)) (fun j h1 h2 => absurd h2 (by omega)) (dv_win hL z eP V1) ?_) (fun M' k => ?_)
  · rw [qf_top, Int.mul_zero, Int.add_zero, dn_s, z, Int.zero_mul, Int.add_zero]
    rfl
  · obtain ⟨o, F, sq, sa, R, x, Tq, Ta, h1, h2, h3, h4⟩ := k
    rw [← Tq.nv] at h1
    rw [← Ta.nv] at h3
    refine ⟨hF.chg (fun t ht => ht.elim (fun u => by rw [u]; exact ha) (fun u => by rw [u]; exact hq)) (F.mono (fun y u => ?_)) o (fun t ht => ?_), R, x, h1, h2, h3, h4⟩
    · rcases u with (u | u) | (u | u)
      · exact Or.inl (Or.inl u)
      · exact Or.inr ⟨a, Or.inl rfl, u⟩
      · exact Or.inl (Or.inr u)
      · exact Or.inr ⟨q, Or.inr rfl, u⟩
    · rcases ht with u | u
      · rw [u]; exact ⟨_, Ta⟩
      · rw [u]; exact ⟨_, Tq⟩
/-- from the first multiplication on -/
theorem f_dvLong {k : Nat} (hk : 2 ≤ k ∧ k ≤ 31) (hO : mOk M) (hF : NF L W M) (ha : a ∈ L) (hb : b ∈ L) (hq : q ∈ L) (he : e ∈ L) (ab : a ≠ b) (aq : a ≠ q) (ae : a ≠ e) (be : b ≠ e) (bq : b ≠ q) (qe : q ≠ e) (hn : sz M b = n + 1) (n1 : 1 ≤ n) (sba : sz M b ≤ sz M a) (wa : sz M a + 2 ≤ W a) (wq : sz M a + 1 ≤ W q) (we : sz M b + 1 ≤ W e) (q1 : 2 ^ (31 - k) ≤ mI M (mR M b 0) n) (q2 : mI M (mR M b 0) n < 2 ^ (32 - k)) : mK M e = 10 ∧ Cv G y_Na_put1 (d + 2) [vr e, vr b] M (fun M36 => mOk M36 ∧ (mK M36 e = 10 ∧ Cv G y_Na_multiply (d + 2) [vr e, vi (2 ^ (k - 2))] M36 (fun M40 => mOk M40 ∧ (mK M40 a = 10 ∧ Cv G y_Na_multiply (d + 2) [vr a, vi (2 ^ (k - 2))] M40 (fun M44 => mOk M44 ∧ (mK M44 a = 10 ∧ Cv G y_Na_reserve (d + 2) [vr a, vi ((mI M44 a 1) + 1)] M44 (fun M48 => mOk M48 ∧ (mK M48 a = 10 ∧ mK M48 (mR M48 a 0) = 30 ∧ ((0 : Int) ≤ mI M48 a 1 ∧ mI M48 a 1 < (mN M48 (mR M48 a 0) : Int)) ∧ ∀ M54, M54 = mUI M48 (mR M48 a 0) (Int.toNat (mI M48 a 1)) 0 → mK M54 e = 10 ∧ mK M54 q = 10 ∧ Cv G y_Na_reserve (d + 2) [vr q, vi (((mI M54 a 1) - (mI M54 e 1)) + 1)] M54 (fun M58 => mOk M58 ∧ (h_Na_divide_134 G (d + 2) a q e (2 ^ (k - 2)) (((mI M54 a 1) - (mI M54 e 1)) + 1) ((((mI M54 a 1) - (mI M54 e 1)) + 1) - 1) M58 (fun M' => NC L W (fun x => x = a ∨ x = q ∨ x = e) M M' ∧ nv M a = nv M b * nv M' q + nv M' a ∧ nv M' a < nv M b))))))))))) := by
  have hTL : ∀ t, (t = a ∨ t = q ∨ t = e) → t ∈ L := fun t u => by
    rcases u with u | u | u
    · rw [u]; exact ha
    · rw [u]; exact hq
    · rw [u]; exact he
  have ea : e ≠ a := fun u => ae u.symm
  have qa : q ≠ a := fun u => aq u.symm
  have eq : e ≠ q := fun u => qe u.symm
  obtain ⟨s1, s2⟩ := sc_bd hk
  have tb := hF.nt hb
  rw [hn] at tb
  have sct := sc_top (t := n) (V := nv M b) (low := dn (mI M (mR M b 0)) n) hk (by rw [tb.nv, dn_s]) ⟨dn_nn (fun j hj => tb.2.2.2.1 j (by omega)), dn_lt (fun j hj => tb.2.2.2.1 j (by omega))⟩ q1 q2
  refine ⟨hF.kd he, (f_put1 hO hF he hb (fun u => be u.symm) (by omega)).mono (fun M36 k36 => ?_)⟩
  obtain ⟨c1, v1⟩ := k36
  have F1 := c1.nf
  have se1 : sz M36 e ≤ sz M b := F1.szv he (by rw [v1]; exact hF.vlt hb)
  refine ⟨c1.ok, F1.kd he, (f_multiply ⟨s1, s2⟩ c1.ok F1 he (by omega)).mono (fun M40 k40 => ?_)⟩
  obtain ⟨c2, v2⟩ := k40
  have F2 := c2.nf
  rw [v1] at v2
  obtain ⟨-, -, -, a14, a15, -⟩ := c1.num hF ha ae
  obtain ⟨-, -, -, a24, a25, -⟩ := c2.num F1 ha ae
  refine ⟨c2.ok, F2.kd ha, (f_multiply ⟨s1, s2⟩ c2.ok F2 ha (by omega)).mono (fun M44 k44 => ?_)⟩
  obtain ⟨c3, v3⟩ := k44
  have F3 := c3.nf
  rw [a25, a15] at v3
  obtain ⟨-, -, -, e34, e35, -⟩ := c3.num F2 he ea
  have ma : sz M44 a ≤ sz M a + 1 := F3.szv ha (by
    rw [v3, p30, Int.mul_comm]
    have h1 := hF.vlt ha
    have h2 := hF.nn0 ha
    have h3 := Int.mul_le_mul_of_nonneg_left (show (2 : Int) ^ (k - 2) ≤ 1073741824 by omega) h2
    omega)
  have mb : sz M a ≤ sz M44 a := hF.szm F3 ha ha (by
    rw [v3]
    have h3 := Int.mul_le_mul_of_nonneg_right s1 (hF.nn0 ha)
    omega)
  have se2 : sz M44 e = n + 1 := by
    rw [e34]
    have u1 := F2.szv (n := n + 1) he (by rw [v2]; exact sct.1)
    have u2 := hF.szm F2 hb he (by
      rw [v2]
      have h3 := Int.mul_le_mul_of_nonneg_right s1 (hF.nn0 hb)
      omega)
    omega
  rw [(F3.nt ha).2.1, show ((sz M44 a : Nat) : Int) + 1 = ((sz M44 a + 1 : Nat) : Int) by first | rfl | omega]
  refine ⟨c3.ok, F3.kd ha, (f_reserve c3.ok F3 ha (by omega)).mono (fun M48 k48 => ?_)⟩
  obtain ⟨c4, v4, z4, w4⟩ := k48
  have F4 := c4.nf
  obtain ⟨-, -, -, e44, e45, -⟩ := c4.num F3 he ea
  rw [(F4.nt ha).2.1, Int.toNat_natCast]
  have cc : mN M48 (mR M48 a 0) = cp M48 a := rfl
  refine ⟨c4.ok, F4.kd ha, F4.ka ha, ⟨by omega, by omega⟩, fun M54 e54 => ?_⟩
  obtain ⟨c5, r5, v5, z5, p5, w5⟩ := F4.wz c4.ok ha (by omega) e54
  have F5 := c5.nf
  obtain ⟨-, -, -, e54', e55, -⟩ := c5.num F4 he ea
  have s54 : sz M54 e = n + 1 := by omega
  obtain ⟨P, eP⟩ : ∃ P, P + (n + 1) = sz M54 a + 1 := ⟨sz M54 a + 1 - (n + 1), by omega⟩
  rw [(F5.nt ha).2.1, (F5.nt he).2.1, s54, show (((sz M54 a : Nat) : Int) - ((n + 1 : Nat) : Int)) + 1 = ((P : Nat) : Int) by first | rfl | omega]
  refine ⟨F5.kd he, F5.kd hq, (f_reserve c5.ok F5 hq (by omega)).mono (fun M58 k58 => ?_)⟩
  obtain ⟨c6, v6, z6, w6⟩ := k58
  have F6 := c6.nf
  obtain ⟨a61, -, a63, a64, a65, a66⟩ := c6.num F5 ha aq
  obtain ⟨-, -, -, e64, e65, -⟩ := c6.num F5 he eq
  have ve : nv M58 e = 2 ^ (k - 2) * nv M b := by rw [e65, e55, e45, e35, v2]
  have va : nv M58 a = 2 ^ (k - 2) * nv M a := by rw [a65, v5, v4, v3]
  refine ⟨c6.ok, hm_dv (f_dvLoop (d := d + 1) (P := P) (n := n) ⟨s1, s2⟩ c6.ok F6 ha hq he aq ae qe (by omega) (by rw [a61, a64, r5, z5, ← r5, a63, r5]; exact w5) (by omega) n1 (by omega) (by omega) w6 (by rw [ve]; exact sct.2)) (fun M' k' => ?_)⟩
  obtain ⟨c7, R, x, h1, h2, h3, h4⟩ := k'
  rw [va, ve] at h1
  rw [ve] at h2
  obtain ⟨r1, r2⟩ := dv_fin (by omega) h1 h2 h3 h4
  have C1 := c1.mono (T' := fun x => x = a ∨ x = q ∨ x = e) (fun _ u => Or.inr (Or.inr u)) hTL hF
  have C2 := c2.mono (T' := fun x => x = a ∨ x = q ∨ x = e) (fun _ u => Or.inr (Or.inr u)) hTL F1
  have C3 := c3.mono (T' := fun x => x = a ∨ x = q ∨ x = e) (fun _ u => Or.inl u) hTL F2
  have C4 := c4.mono (T' := fun x => x = a ∨ x = q ∨ x = e) (fun _ u => Or.inl u) hTL F3
  have C5 := c5.mono (T' := fun x => x = a ∨ x = q ∨ x = e) (fun _ u => Or.inl u) hTL F4
  have C6 := c6.mono (T' := fun x => x = a ∨ x = q ∨ x = e) (fun _ u => Or.inr (Or.inl u)) hTL F5
  have C7 := c7.mono (T' := fun x => x = a ∨ x = q ∨ x = e) (fun _ u => u.elim Or.inl (fun u => Or.inr (Or.inl u))) hTL F6
  exact ⟨(((((C1.trans C2).trans C3).trans C4).trans C5).trans C6).trans C7, r1, r2⟩
/-- quotient and rest -/
theorem f_divide (hO : mOk M) (hF : NF L W M) (ha : a ∈ L) (hb : b ∈ L) (hq : q ∈ L) (he : e ∈ L) (ab : a ≠ b) (aq : a ≠ q) (ae : a ≠ e) (bq : b ≠ q) (be : b ≠ e) (qe : q ≠ e) (hb0 : 0 < nv M b) (wa : sz M a + 2 ≤ W a) (wq : sz M a + 1 ≤ W q) (we : sz M b + 1 ≤ W e) : Cv G y_Na_divide (d + 3) [vr a, vr b, vr q, vr e] M (fun M' => NC L W (fun x => x = a ∨ x = q ∨ x = e) M M' ∧ nv M a = nv M b * nv M' q + nv M' a ∧ nv M' a < nv M b) := by
  have hTL : ∀ t, (t = a ∨ t = q ∨ t = e) → t ∈ L := fun t u => by
    rcases u with u | u | u
    · rw [u]; exact ha
    · rw [u]; exact hq
    · rw [u]; exact he
  have b0 : sz M b ≠ 0 := fun u => by have := (hF.sz0 hb).1 u; omega
  refine k_Na_divide hO ⟨hF.kd hq, (f_put0 ⟨by decide, by decide⟩ hO hF hq).mono (fun M2 k2 => ?_)⟩
  obtain ⟨c1, v1⟩ := k2
  have F1 := c1.nf
  have C1 := c1.mono (T' := fun x => x = a ∨ x = q ∨ x = e) (fun _ u => Or.inr (Or.inl u)) hTL hF
  obtain ⟨-, -, -, a14, a15, -⟩ := c1.num hF ha aq
  obtain ⟨-, -, -, b14, b15, -⟩ := c1.num hF hb bq
  have tb := F1.nt hb
  rw [tb.2.1, (F1.nt ha).2.1]
  refine ⟨c1.ok, F1.kd hb, fun _ => F1.kd ha, fun y => ⟨C1, ?_, ?_⟩, fun y => ⟨fun y1 => ?_, fun y1 => ?_⟩⟩
  · rw [v1, Int.mul_zero, Int.zero_add, a15]
  · rw [a15]
    exact hF.lts ha hb (by omega)
  · obtain ⟨k1, k2⟩ := f_dvOne (G := G) (d := d) c1.ok F1 ha hb hq ab aq bq (by omega) (by omega)
    refine ⟨k1, k2.mono (fun M16 ⟨k3, k4, k5, k6, k7, k8⟩ => ⟨k3, k4, k5, k6, k7, k8.mono (fun x M23 ⟨k9, k10, k11, k12⟩ => ⟨k9, k10, k11, k12.mono (fun M27 ⟨k13, k14, k15, k16⟩ => ⟨k13, C1.trans (k14.mono (fun _ u => u.elim Or.inl (fun u => Or.inr (Or.inl u))) hTL F1), ?_, ?_⟩)⟩)⟩)⟩
    · rw [← a15, ← b15]; exact k15
    · rw [← b15]; exact k16
  · obtain ⟨n, hn⟩ : ∃ n, sz M2 b = n + 1 := ⟨sz M2 b - 1, by omega⟩
    rw [hn] at tb
    have tn := tb.2.2.2.1 n (by omega)
    have t0 : mI M2 (mR M2 b 0) n ≠ 0 := tb.2.2.2.2 (by omega)
    have cc : mN M2 (mR M2 b 0) = cp M2 b := rfl
    have sc := F1.sc hb
    rw [hn, show Int.toNat (((n + 1 : Nat) : Int) - 1) = n by first | rfl | omega]
    refine ⟨F1.ka hb, ⟨by omega, by omega⟩, (s_nlz (by omega) (l30i tn) c1.ok).mono (fun x M32 g => ?_)⟩
    obtain ⟨eM, k, ek, k31, q1, q2⟩ := g
    have kk : 31 - k < 30 := p2l (by rw [show (2 : Int) ^ 30 = 1073741824 by decide]; exact Int.lt_of_le_of_lt q1 tn.2)
    rw [eM, ek, show ((k : Nat) : Int) - 2 = ((k - 2 : Nat) : Int) by first | rfl | omega, j_sh1 (k - 2) (by omega)]
    obtain ⟨k1, k2⟩ := f_dvLong (G := G) (d := d) (k := k) ⟨by omega, by omega⟩ c1.ok F1 ha hb hq he ab aq ae be bq qe hn (by omega) (by omega) (by omega) (by omega) (by omega) q1 q2
    refine ⟨⟨by omega, by omega⟩, c1.ok, k1, k2.mono (fun M36 ⟨k3, k4, k5⟩ => ⟨k3, k4, k5.mono (fun M40 ⟨k6, k7, k8⟩ => ⟨k6, k7, k8.mono (fun M44 ⟨k9, k10, k11⟩ => ⟨k9, k10, k11.mono (fun M48 ⟨k12, k13, k14, k15, k16⟩ => ⟨k12, k13, k14, k15, fun M54 e54 => ?_⟩)⟩)⟩)⟩)⟩
    obtain ⟨k17, k18, k19⟩ := k16 M54 e54
    refine ⟨k17, k18, k19.mono (fun M58 ⟨k20, k21⟩ => ⟨k20, hm_dv k21 (fun M' ⟨k22, k23, k24⟩ => ⟨C1.trans k22, ?_, ?_⟩)⟩)⟩
    · rw [← a15, ← b15]; exact k23
    · rw [← b15]; exact k24
end NAO
end
section
/-! The family: both numbers become sums of their multiples. -/
section NAP
variable {G : mG} {d a b c q e Y Cy s n m X Cx w : Nat} {M M' M1 M2 M3 : mM} {v : Int} {L : List Nat} {W : Nat → Nat} {T T' : Nat → Prop}
theorem cb_bd {f g u v c : Int} (hf : -1073741824 < f ∧ f < 1073741824) (hg : -1073741824 < g ∧ g < 1073741824) (hu : 0 ≤ u ∧ u < 1073741824) (hv : 0 ≤ v ∧ v < 1073741824) (hc : -4294967296 ≤ c ∧ c ≤ 4294967296) : i64 (c + (f * u + g * v)) ∧ -4294967296 ≤ (c + (f * u + g * v)) / 1073741824 ∧ (c + (f * u + g * v)) / 1073741824 ≤ 4294967296 := by
  have a1 : f * u ≤ 1073741823 * u := Int.mul_le_mul_of_nonneg_right (by omega) hu.1
  have a2 : -1073741823 * u ≤ f * u := Int.mul_le_mul_of_nonneg_right (by omega) hu.1
  have a3 : g * v ≤ 1073741823 * v := Int.mul_le_mul_of_nonneg_right (by omega) hv.1
  have a4 : -1073741823 * v ≤ g * v := Int.mul_le_mul_of_nonneg_right (by omega) hv.1
  unfold i64
  omega
theorem c32 {c : Int} (h : -4294967296 ≤ c ∧ c ≤ 4294967296) : i64 c := ⟨by omega, by omega⟩
/-- small factors -/
def fac (x : Int) : Prop := -1073741824 < x ∧ x < 1073741824
def cbQ (M : mM) (a Y Cy b X Cx : Nat) (u v : Int) (M' : mM) : Prop := mOk M' ∧ FI (fun x => (x = a ∨ x = Y) ∨ (x = b ∨ x = X)) M M' ∧ ∃ s t, Nt M' a Y Cy s ∧ Nt M' b X Cx t ∧ dn (mI M' Y) s = u ∧ dn (mI M' X) t = v
theorem s_cb32 {f0 f1 f2 f3 A B : Int} (h : Nl M a Y Cy) (k : Nl M b X Cx) (hn : n ≤ Cy) (hm : n ≤ Cx) (ab : a ≠ b) (YX : Y ≠ X) (kc : mK M c = 33) (nc : mN M c = 4) (e0 : mL M c 0 = f0) (e1 : mL M c 1 = f1) (e2 : mL M c 2 = f2) (e3 : mL M c 3 = f3) (b0 : fac f0) (b1 : fac f1) (b2 : fac f2) (b3 : fac f3) (hL : lim M Y n) (hX : lim M X n) (eA : A = dn (mI M Y) n) (eB : B = dn (mI M X) n) (g0 : 0 ≤ f0 * A + f1 * B ∧ f0 * A + f1 * B < 2 ^ (30 * n)) (g1 : 0 ≤ f2 * A + f3 * B ∧ f2 * A + f3 * B < 2 ^ (30 * n)) : ∀ (t i : Nat) (c1 c2 : Int) (M1 : mM), n ≤ i + t → i ≤ n → (-4294967296 ≤ c1 ∧ c1 ≤ 4294967296) → (-4294967296 ≤ c2 ∧ c2 ≤ 4294967296) → mOk M1 → FI (fun x => x = Y ∨ x = X) M M1 → lim M1 Y n → lim M1 X n → (∀ j, i ≤ j → mI M1 Y j = mI M Y j) → (∀ j, i ≤ j → mI M1 X j = mI M X j) → dn (mI M1 Y) n + c1 * 2 ^ (30 * i) = dn (mI M Y) n - dn (mI M Y) i + f0 * dn (mI M Y) i + f1 * dn (mI M X) i → dn (mI M1 X) n + c2 * 2 ^ (30 * i) = dn (mI M X) n - dn (mI M X) i + f2 * dn (mI M Y) i + f3 * dn (mI M X) i → h_Na_combine_32 G d a b c n c1 c2 i M1 (cbQ M a Y Cy b X Cx (f0 * A + f1 * B) (f2 * A + f3 * B)) := by
  have aY : a ≠ Y := h.2.2.2.2.2.1
  have bX : b ≠ X := k.2.2.2.2.2.1
  have aX : a ≠ X := fun u => by have h1 := h.1; have h2 := k.2.2.1; rw [u, h2] at h1; omega
  have bY : b ≠ Y := fun u => by have h1 := k.1; have h2 := h.2.2.1; rw [u, h2] at h1; omega
  have cb := h.2.2.2.2.1.2
  intro t
  induction t with
  | zero =>
    intro i c1 c2 M1 h1 h2 p1 p2 o F LY LX EY EX V1 V2
    have ei : i = n := by omega
    subst ei
    rw [show dn (mI M Y) i - dn (mI M Y) i + f0 * dn (mI M Y) i + f1 * dn (mI M X) i = f0 * A + f1 * B by rw [eA, eB]; omega] at V1
    rw [show dn (mI M X) i - dn (mI M X) i + f2 * dn (mI M Y) i + f3 * dn (mI M X) i = f2 * A + f3 * B by rw [eA, eB]; omega] at V2
    have z1 := tm_hi (V := 0) ⟨dn_nn LY, dn_lt LY⟩ V1.symm g0
    have z2 := tm_hi (V := 0) ⟨dn_nn LX, dn_lt LX⟩ V2.symm g1
    rw [z1, Int.zero_mul, Int.add_zero] at V1
    rw [z2, Int.zero_mul, Int.add_zero] at V2
    refine k_Na_combine_32 o ⟨by omega, by omega⟩ (c32 p1) (c32 p2) ⟨by omega, by omega⟩ ⟨fun _ => ⟨by rw [F.1]; exact h.1, (s_Na_trim o (h.fi F) hn LY).mono (fun M13 q => ?_)⟩, fun y => absurd (Int.le_refl _) y⟩
    obtain ⟨o13, F13, -, s, -, T13, v13⟩ := q
    have F2 := (F.mono (S' := fun x => (x = a ∨ x = Y) ∨ (x = b ∨ x = X)) (fun _ u => u.elim (fun u => Or.inl (Or.inr u)) (fun u => Or.inr (Or.inr u)))).trans (F13.mono (fun _ u => Or.inl (Or.inl u)))
    have x13 : mI M13 X = mI M1 X := F13.2.2.2.2.2.2 X (fun u => aX u.symm)
    refine ⟨o13, by rw [F2.1]; exact k.1, (s_Na_trim o13 (k.fi F2) hm (fun j hj => by rw [x13]; exact LX j hj)).mono (fun M17 q => ?_)⟩
    obtain ⟨o17, F17, -, s', -, T17, v17⟩ := q
    have T13' := T13.fi F17 (fun u => ab u) (fun u => bY u.symm)
    refine ⟨o17, o17, F2.trans (F17.mono (fun _ u => Or.inr (Or.inl u))), s, s', T13', T17, ?_, ?_⟩
    · rw [F17.2.2.2.2.2.2 Y (fun u => bY u.symm), v13, V1]
    · rw [v17, x13, V2]
  | succ t ih =>
    intro i c1 c2 M1 h1 h2 p1 p2 o F LY LX EY EX V1 V2
    by_cases ei : i = n
    · exact ih i c1 c2 M1 (by omega) h2 p1 p2 o F LY LX EY EX V1 V2
    have li : i < n := by omega
    have yi : mI M1 Y i = mI M Y i := EY i (Nat.le_refl _)
    have xi : mI M1 X i = mI M X i := EX i (Nat.le_refl _)
    obtain ⟨w1, w2, w3⟩ := cb_bd b0 b1 (hL i li) (hX i li) p1
    obtain ⟨u1, u2, u3⟩ := cb_bd b2 b3 (hL i li) (hX i li) p2
    refine k_Na_combine_32 o ⟨by omega, by omega⟩ (c32 p1) (c32 p2) ⟨by omega, by omega⟩ ⟨fun y => absurd y (by omega), fun y => ?_⟩
    rw [F.1, F.2.1, F.2.2.1, F.2.2.2.1, h.2.1, h.2.2.2.1, k.2.1, k.2.2.2.1, nc, e0, e1, e2, e3, Int.toNat_natCast, yi, xi, j_and, j_and, j_shr w1, j_shr u1]
    refine ⟨h.1, h.2.2.1, by omega, k.1, k.2.2.1, by omega, kc, ⟨by decide, by decide⟩, ⟨by decide, by decide⟩, ⟨by decide, by decide⟩, ⟨by decide, by decide⟩, by omega, m30i _, fun M33 e33 => ?_⟩
    have F33 : FI (fun x => x = Y) M1 M33 := by rw [e33]; exact FI.ui rfl
    rw [F33.1, F33.2.1, F33.2.2.1, F.1, F.2.1, F.2.2.1, k.2.1, k.2.2.2.1]
    refine ⟨k.2.2.1, by omega, m30i _, fun M38 e38 => ?_⟩
    have F38 : FI (fun x => x = X) M33 M38 := by rw [e38]; exact FI.ui rfl
    have y38 : mI M38 Y = mI M33 Y := F38.2.2.2.2.2.2 Y YX
    have x33 : mI M33 X = mI M1 X := F33.2.2.2.2.2.2 X (fun u => YX u.symm)
    have o33 : mOk M33 := by rw [e33]; exact mOk_UI o (m30i _)
    rw [show ((i : Int) + 1) = ((i + 1 : Nat) : Int) by first | rfl | omega]
    have d1 := c_st (i := i) (dn_ui (M' := M33) (n := n) li e33)
    have d2 := c_st (i := i) (dn_ui (M' := M38) (n := n) li e38)
    rw [yi] at d1
    rw [x33, xi] at d2
    refine ih (i + 1) _ _ M38 (by omega) (by omega) ⟨w2, w3⟩ ⟨u2, u3⟩ (by rw [e38]; exact mOk_UI o33 (m30i _)) ((F.trans (F33.mono (fun _ u => Or.inl u))).trans (F38.mono (fun _ u => Or.inr u))) (fun j hj => by rw [y38]; exact lim_ui LY (m30 _) e33 j hj) (lim_ui (fun j hj => by rw [x33]; exact LX j hj) (m30 _) e38) (fun j hj => by rw [y38, mI_ui Y j e33, if_neg (fun u => by omega)]; exact EY j (by omega)) (fun j hj => by rw [mI_ui X j e38, if_neg (fun u => by omega), x33]; exact EX j (by omega)) ?_ ?_
    · rw [y38, d1, dn_s (mI M Y) i, dn_s (mI M X) i]
      exact al_cmb V1
    · rw [d2, dn_s (mI M Y) i, dn_s (mI M X) i]
      exact al_cmb2 V2
theorem hm_cb {l c1 c2 i : Int} {Q Q' : mM → Prop} (h : h_Na_combine_32 G d a b c l c1 c2 i M Q) (hq : ∀ M', Q M' → Q' M') : h_Na_combine_32 G d a b c l c1 c2 i M Q' := by
  unfold h_Na_combine_32 at h ⊢
  exact mWm.mono h (fun r M' k => ⟨k.1, hq M' k.2⟩)
/-- both become sums -/
theorem f_combine {f0 f1 f2 f3 : Int} (hO : mOk M) (hF : NF L W M) (ha : a ∈ L) (hb : b ∈ L) (ab : a ≠ b) (hs : sz M b ≤ sz M a) (wb : sz M a ≤ W b) (kc : mK M c = 33) (nc : mN M c = 4) (zc : c < mZ M) (e0 : mL M c 0 = f0) (e1 : mL M c 1 = f1) (e2 : mL M c 2 = f2) (e3 : mL M c 3 = f3) (b0 : fac f0) (b1 : fac f1) (b2 : fac f2) (b3 : fac f3) (g0 : 0 ≤ f0 * nv M a + f1 * nv M b ∧ f0 * nv M a + f1 * nv M b < 2 ^ (30 * sz M a)) (g1 : 0 ≤ f2 * nv M a + f3 * nv M b ∧ f2 * nv M a + f3 * nv M b < 2 ^ (30 * sz M a)) : Cv G y_Na_combine (d + 3) [vr a, vr b, vr c] M (fun M' => NC L W (fun x => x = a ∨ x = b) M M' ∧ nv M' a = f0 * nv M a + f1 * nv M b ∧ nv M' b = f2 * nv M a + f3 * nv M b) := by
  have hTL : ∀ t, (t = a ∨ t = b) → t ∈ L := fun t u => u.elim (fun u => by rw [u]; exact ha) (fun u => by rw [u]; exact hb)
  refine k_Na_combine hO ?_
  rw [(hF.nt ha).2.1]
  refine ⟨hF.kd ha, hF.kd hb, (f_reserve hO hF hb wb).mono (fun M3 k3 => ?_)⟩
  obtain ⟨c1, v1, z1, w1⟩ := k3
  have F1 := c1.nf
  obtain ⟨a1, -, a3, a4, a5, a6⟩ := c1.num hF ha ab
  have tb := F1.nt hb
  have ta := F1.nt ha
  have bb := F1.cb hb
  have cc : mN M3 (mR M3 b 0) = cp M3 b := rfl
  rw [tb.2.1]
  refine ⟨c1.ok, F1.kd hb, (s_JA_fillR (p := sz M3 b) (q := sz M a) c1.ok (F1.ka hb) (by omega) (by omega) (by omega) ⟨by decide, by decide⟩).mono (fun M7 k7 => ?_)⟩
  obtain ⟨o7, F7, i7⟩ := k7
  have ne := F1.ne ha hb ab
  have nab := F1.na ha hb
  have nbb := F1.na hb hb
  have LX : lim M7 (mR M3 b 0) (sz M a) := fun j hj => by
    rw [i7 j]
    by_cases u : sz M3 b ≤ j ∧ j < sz M a
    · rw [if_pos u]; exact ⟨by decide, by decide⟩
    · rw [if_neg u]; exact tb.2.2.2.1 j (by omega)
  have LY : lim M7 (mR M3 a 0) (sz M a) := fun j hj => by
    rw [F7.2.2.2.2.2.2 _ ne]
    exact ta.2.2.2.1 j (by omega)
  have DX : dn (mI M7 (mR M3 b 0)) (sz M a) = nv M b := by
    rw [dn_z (s := sz M3 b) (by omega) (fun j u1 u2 => by rw [i7 j, if_pos ⟨u1, u2⟩]), ← v1]
    exact dn_cg _ (fun j hj => by rw [i7 j, if_neg (by omega)])
  have DY : dn (mI M7 (mR M3 a 0)) (sz M a) = nv M a := by
    rw [F7.2.2.2.2.2.2 _ ne, ← a5]
    unfold nv
    rw [a4]
  have fc := c1.2.2.1.2 c zc
  have aC := F1.sc ha
  refine ⟨o7, hm_cb (s_cb32 (n := sz M a) (A := nv M a) (B := nv M b) (ta.1.fi F7) (tb.1.fi F7) (by omega) w1 ab ne (by rw [F7.1, fc.1]; exact kc) (by rw [F7.2.1, fc.2.1]; exact nc) (by rw [F7.2.2.2.1, fc.2.2.1]; exact e0) (by rw [F7.2.2.2.1, fc.2.2.1]; exact e1) (by rw [F7.2.2.2.1, fc.2.2.1]; exact e2) (by rw [F7.2.2.2.1, fc.2.2.1]; exact e3) b0 b1 b2 b3 LY LX DY.symm DX.symm g0 g1 (sz M a) 0 0 0 M7 (by omega) (by omega) ⟨by decide, by decide⟩ ⟨by decide, by decide⟩ o7 FI.refl LY LX (fun _ _ => rfl) (fun _ _ => rfl) (by show _ + 0 * _ = _ - 0 + _ * 0 + _ * (0 : Int); rw [Int.zero_mul, Int.mul_zero, Int.mul_zero, Int.sub_zero, Int.add_zero, Int.add_zero]) (by show _ + 0 * _ = _ - 0 + _ * 0 + _ * (0 : Int); rw [Int.zero_mul, Int.mul_zero, Int.mul_zero, Int.sub_zero, Int.add_zero, Int.add_zero])) (fun M' k' => ?_)⟩
  obtain ⟨o, F, s, t, Ta, Tb, r1, r2⟩ := k'
  rw [← Ta.nv] at r1
  rw [← Tb.nv] at r2
  have FF : FI (nsS M3 (fun x => x = a ∨ x = b)) M3 M' := by
    refine (F7.mono (fun y u => Or.inr ⟨b, Or.inr rfl, u⟩)).trans (F.mono (fun y u => ?_))
    rcases u with (u | u) | (u | u)
    · exact Or.inl (Or.inl u)
    · exact Or.inr ⟨a, Or.inl rfl, u⟩
    · exact Or.inl (Or.inr u)
    · exact Or.inr ⟨b, Or.inr rfl, u⟩
  have C2 := F1.chg hTL FF o (fun t ht => by
    rcases ht with u | u
    · rw [u]; exact ⟨_, Ta⟩
    · rw [u]; exact ⟨_, Tb⟩)
  exact ⟨(c1.mono (fun _ u => Or.inr u) hTL hF).trans C2, r1, r2⟩
end NAP
end
section
/-! Lehmer's steps, and the class's search for them. -/
section LEH
variable {K x y a b c d u v q : Int}
/-- common divisors are the same -/
def DE (u v u' v' : Int) : Prop := ∀ g : Int, (g ∣ u ∧ g ∣ v) ↔ (g ∣ u' ∧ g ∣ v')
theorem DE.refl : DE u v u v := fun _ => Iff.rfl
theorem DE.trans {u1 v1 u2 v2 : Int} (h : DE u v u1 v1) (k : DE u1 v1 u2 v2) : DE u v u2 v2 := fun g => (h g).trans (k g)
theorem DE.swap : DE u v v u := fun _ => And.comm
theorem DE.step (q : Int) : DE u v v (u - q * v) := fun g => by
  constructor
  · rintro ⟨h1, h2⟩
    exact ⟨h2, Int.dvd_sub h1 (Int.dvd_trans h2 (Int.dvd_mul_left q v))⟩
  · rintro ⟨h1, h2⟩
    refine ⟨?_, h1⟩
    have := Int.dvd_add h2 (Int.dvd_trans h1 (Int.dvd_mul_left q v))
    rw [show u - q * v + q * v = u by first | rfl | omega] at this
    exact this
/-- what the highest bits tell -/
def LB (K x y a b c d u v : Int) : Prop := (K * (x + b) ≤ u ∧ u ≤ K * (x + a) ∧ K * (y + c) ≤ v ∧ v ≤ K * (y + d)) ∨ (K * (x + a) ≤ u ∧ u ≤ K * (x + b) ∧ K * (y + d) ≤ v ∧ v ≤ K * (y + c))
theorem lb_q {x1 y1 x2 y2 : Int} (hK : 0 < K) (h1 : K * x1 ≤ u) (h2 : u ≤ K * x2) (h3 : K * y1 ≤ v) (h4 : v ≤ K * y2) (hy1 : 0 < y1) (hq0 : 0 ≤ q) (hq1 : q * y2 ≤ x1) (hq2 : x2 < (q + 1) * y1) : 0 ≤ u - q * v ∧ u - q * v < v := by
  have a1 : q * v ≤ q * (K * y2) := Int.mul_le_mul_of_nonneg_left h4 hq0
  have a2 : K * (q * y2) ≤ K * x1 := Int.mul_le_mul_of_nonneg_left hq1 (Int.le_of_lt hK)
  have a3 : K * x2 < K * ((q + 1) * y1) := Int.mul_lt_mul_of_pos_left hq2 hK
  have a4 : (q + 1) * (K * y1) ≤ (q + 1) * v := Int.mul_le_mul_of_nonneg_left h3 (by omega)
  rw [Int.mul_left_comm] at a1 a4
  rw [Int.add_mul (a := q) (b := 1) (c := v), Int.one_mul] at a4
  omega
theorem lb_new {x1 y1 : Int} (h1 : K * x1 ≤ u) (h4 : v ≤ K * y1) (hq0 : 0 ≤ q) : K * (x1 - q * y1) ≤ u - q * v := by
  have a1 : q * v ≤ q * (K * y1) := Int.mul_le_mul_of_nonneg_left h4 hq0
  rw [Int.mul_sub, Int.mul_left_comm]
  omega
theorem lb_new2 {x1 y1 : Int} (h1 : u ≤ K * x1) (h4 : K * y1 ≤ v) (hq0 : 0 ≤ q) : u - q * v ≤ K * (x1 - q * y1) := by
  have a1 : q * (K * y1) ≤ q * v := Int.mul_le_mul_of_nonneg_left h4 hq0
  rw [Int.mul_sub, Int.mul_left_comm]
  omega
/-- one step -/
theorem lb_step (hK : 0 < K) (h : LB K x y a b c d u v) (p1 : 0 ≤ x + a) (p2 : 0 ≤ x + b) (p3 : 0 < y + c) (p4 : 0 < y + d) (e1 : q = (x + a) / (y + c)) (e2 : q = (x + b) / (y + d)) : 0 ≤ q ∧ (0 ≤ u - q * v ∧ u - q * v < v) ∧ LB K y (x - q * y) c d (a - q * c) (b - q * d) v (u - q * v) ∧ 0 ≤ (x - q * y) + (a - q * c) ∧ 0 ≤ (x - q * y) + (b - q * d) := by
  have q0 : 0 ≤ q := by rw [e1]; exact Int.ediv_nonneg p1 (Int.le_of_lt p3)
  have r1 : q * (y + c) ≤ x + a := by rw [e1]; exact Int.ediv_mul_le _ (by omega)
  have r2 : x + a < (q + 1) * (y + c) := by rw [e1]; exact Int.lt_ediv_add_one_mul_self _ p3
  have r3 : q * (y + d) ≤ x + b := by rw [e2]; exact Int.ediv_mul_le _ (by omega)
  have r4 : x + b < (q + 1) * (y + d) := by rw [e2]; exact Int.lt_ediv_add_one_mul_self _ p4
  have s1 : (x - q * y) + (a - q * c) = (x + a) - q * (y + c) := by rw [Int.mul_add]; omega
  have s2 : (x - q * y) + (b - q * d) = (x + b) - q * (y + d) := by rw [Int.mul_add]; omega
  clear e1 e2
  rcases h with ⟨h1, h2, h3, h4⟩ | ⟨h1, h2, h3, h4⟩
  · refine ⟨q0, lb_q hK h1 h2 h3 h4 p3 q0 r3 r2, Or.inr ⟨h3, h4, ?_, ?_⟩, by omega, by omega⟩
    · rw [s2]; exact lb_new h1 h4 q0
    · rw [s1]; exact lb_new2 h2 h3 q0
  · refine ⟨q0, lb_q hK h1 h2 h3 h4 p4 q0 r1 r4, Or.inl ⟨h3, h4, ?_, ?_⟩, by omega, by omega⟩
    · rw [s1]; exact lb_new h1 h4 q0
    · rw [s2]; exact lb_new2 h2 h3 q0
/-- the product halves -/
theorem eu_half {r : Int} (hv : 0 ≤ v) (hvu : v ≤ u) (hr : 0 ≤ r ∧ r < v) (hq : 1 ≤ q) (e : r = u - q * v) : 2 * (v * r) ≤ u * v := by
  have a1 : v ≤ q * v := by
    have := Int.mul_le_mul_of_nonneg_right hq hv
    omega
  have a2 : 2 * r ≤ u := by omega
  have a3 : v * (2 * r) ≤ v * u := Int.mul_le_mul_of_nonneg_left a2 hv
  rw [Int.mul_left_comm, Int.mul_comm v u] at a3
  exact a3
theorem lb_hi {B : Int} (hK : 0 < K) (h : LB K x y a b c d u v) (hu : u < K * B) (hv : v < K * B) (ba : -1073741824 < a ∧ a < 1073741824) (bb : -1073741824 < b ∧ b < 1073741824) (bc : -1073741824 < c ∧ c < 1073741824) (bd : -1073741824 < d ∧ d < 1073741824) : x < B + 1073741824 ∧ y < B + 1073741824 := by
  rcases h with ⟨h1, h2, h3, h4⟩ | ⟨h1, h2, h3, h4⟩
  · have a1 : x + b < B := Int.lt_of_mul_lt_mul_left (Int.lt_of_le_of_lt h1 hu) (Int.le_of_lt hK)
    have a2 : y + c < B := Int.lt_of_mul_lt_mul_left (Int.lt_of_le_of_lt h3 hv) (Int.le_of_lt hK)
    omega
  · have a1 : x + a < B := Int.lt_of_mul_lt_mul_left (Int.lt_of_le_of_lt h1 hu) (Int.le_of_lt hK)
    have a2 : y + d < B := Int.lt_of_mul_lt_mul_left (Int.lt_of_le_of_lt h3 hv) (Int.le_of_lt hK)
    omega
end LEH
section NAQ
variable {G : mG} {e z n m w : Nat} {M M' M1 M2 M3 : mM} {K B u0 v0 x y a b c d q : Int}
/-- only the longs of one cell differ -/
def FLo (c : Nat) (M M' : mM) : Prop := mK M' = mK M ∧ mN M' = mN M ∧ mR M' = mR M ∧ mI M' = mI M ∧ mZ M' = mZ M ∧ mS M' = mS M ∧ ∀ x, x ≠ c → mL M' x = mL M x
theorem FLo.refl {c : Nat} : FLo c M M := ⟨rfl, rfl, rfl, rfl, rfl, rfl, fun _ _ => rfl⟩
theorem FLo.ul {c j : Nat} {v : Int} (e : M' = mUL M c j v) : FLo c M M' := by
  subst e
  refine ⟨rfl, rfl, rfl, rfl, rfl, rfl, fun x hx => ?_⟩
  funext k
  rw [mL_UL, if_neg (fun u => hx u.1)]
theorem FLo.trans {c : Nat} (h : FLo c M M1) (k : FLo c M1 M2) : FLo c M M2 := by
  obtain ⟨h1, h2, h3, h4, h5, h6, h7⟩ := h
  obtain ⟨k1, k2, k3, k4, k5, k6, k7⟩ := k
  exact ⟨k1.trans h1, k2.trans h2, k3.trans h3, k4.trans h4, k5.trans h5, k6.trans h6, fun x hx => (k7 x hx).trans (h7 x hx)⟩
theorem mL_ul {c j : Nat} {v : Int} (b i : Nat) (e : M' = mUL M c j v) : mL M' b i = if b = c ∧ i = j then v else mL M b i := by rw [e, mL_UL]
/-- on the way -/
def FS (K u0 v0 x y a b c d : Int) : Prop := (fac a ∧ fac b ∧ fac c ∧ fac d) ∧ LB K x y a b c d (a * u0 + b * v0) (c * u0 + d * v0) ∧ (0 ≤ x + a ∧ 0 ≤ x + b ∧ 0 ≤ y + c ∧ 0 ≤ y + d) ∧ (0 ≤ c * u0 + d * v0 ∧ c * u0 + d * v0 ≤ a * u0 + b * v0 ∧ a * u0 + b * v0 ≤ u0) ∧ DE u0 v0 (a * u0 + b * v0) (c * u0 + d * v0) ∧ ((a * u0 + b * v0) * (c * u0 + d * v0) ≤ u0 * v0 ∧ (b = 0 ∨ 2 * ((a * u0 + b * v0) * (c * u0 + d * v0)) ≤ u0 * v0))
theorem fs_al {u0 v0 a b c d q : Int} : (a - q * c) * u0 + (b - q * d) * v0 = (a * u0 + b * v0) - q * (c * u0 + d * v0) := by grind
theorem FS.step (hK : 0 < K) (h : FS K u0 v0 x y a b c d) (v0p : 0 ≤ v0) (p3 : 0 < y + c) (p4 : 0 < y + d) (e1 : q = (x + a) / (y + c)) (e2 : q = (x + b) / (y + d)) (f1 : fac (a - q * c)) (f2 : fac (b - q * d)) : FS K u0 v0 y (x - q * y) c d (a - q * c) (b - q * d) := by
  obtain ⟨⟨ba, bb, bc, bd⟩, lb, ⟨p1, p2, -, -⟩, ⟨o1, o2, o3⟩, de, pr⟩ := h
  obtain ⟨q0, ⟨r1, r2⟩, lb', s1, s2⟩ := lb_step hK lb p1 p2 p3 p4 e1 e2
  unfold FS
  rw [fs_al]
  generalize a * u0 + b * v0 = u at *
  generalize c * u0 + d * v0 = v at *
  have q1 : 1 ≤ q := by
    refine Classical.byContradiction (fun w => ?_)
    have : q = 0 := by omega
    rw [this, Int.zero_mul] at r2
    omega
  have hf := eu_half (q := q) o1 o2 ⟨r1, r2⟩ q1 rfl
  have vr0 := Int.mul_nonneg o1 r1
  exact ⟨⟨bc, bd, f1, f2⟩, lb', ⟨by omega, by omega, s1, s2⟩, ⟨r1, by omega, by omega⟩, de.trans (DE.step q), by omega, Or.inr (by omega)⟩
theorem FS.init {x0 y0 : Int} (h1 : K * x0 ≤ u0) (h2 : u0 < K * (x0 + 1)) (h3 : K * y0 ≤ v0) (h4 : v0 < K * (y0 + 1)) (hx : 0 ≤ x0) (hy : 0 ≤ y0) (h0 : 0 ≤ v0) (h : v0 ≤ u0) : FS K u0 v0 x0 y0 1 0 0 1 := by
  unfold FS
  rw [show (1 : Int) * u0 + 0 * v0 = u0 by first | rfl | omega, show (0 : Int) * u0 + 1 * v0 = v0 by first | rfl | omega]
  exact ⟨⟨⟨by decide, by decide⟩, ⟨by decide, by decide⟩, ⟨by decide, by decide⟩, ⟨by decide, by decide⟩⟩, Or.inl ⟨by rw [Int.add_zero]; exact h1, Int.le_of_lt h2, by rw [Int.add_zero]; exact h3, Int.le_of_lt h4⟩, ⟨by omega, by omega, by omega, by omega⟩, ⟨h0, h, Int.le_refl _⟩, DE.refl, Int.le_refl _, Or.inl rfl⟩
/-- what the search leaves behind -/
def ffQ (M : mM) (f : Nat) (u0 v0 : Int) (x : Int) (M' : mM) : Prop := mOk M' ∧ FLo f M M' ∧ ∃ a b c d, (mL M' f 0 = a ∧ mL M' f 1 = b ∧ mL M' f 2 = c ∧ mL M' f 3 = d) ∧ (fac a ∧ fac b ∧ fac c ∧ fac d) ∧ (0 ≤ c * u0 + d * v0 ∧ c * u0 + d * v0 ≤ a * u0 + b * v0 ∧ a * u0 + b * v0 ≤ u0) ∧ DE u0 v0 (a * u0 + b * v0) (c * u0 + d * v0) ∧ (x = 0 ∨ 2 * ((a * u0 + b * v0) * (c * u0 + d * v0)) ≤ u0 * v0) ∧ (x = 0 ∨ x = 1)
theorem fac64 {x : Int} (h : fac x) : i64 x := by unfold fac at h; exact ⟨by omega, by omega⟩
theorem ff_end {f : Nat} (hO : mOk M) (hk : mK M z = 9) (hf : mR M z 6 = f) (kf : mK M f = 33) (nf : mN M f = 4) (h : FS K u0 v0 x y a b c d) : mK M z = 9 ∧ mK M (mR M z 6) = 33 ∧ ((0 : Int) ≤ 0 ∧ 0 < (mN M (mR M z 6) : Int)) ∧ ∀ M17, M17 = mUL M (mR M z 6) 0 a → mK M17 (mR M17 z 6) = 33 ∧ ((0 : Int) ≤ 1 ∧ 1 < (mN M17 (mR M17 z 6) : Int)) ∧ ∀ M21, M21 = mUL M17 (mR M17 z 6) 1 b → mK M21 (mR M21 z 6) = 33 ∧ ((0 : Int) ≤ 2 ∧ 2 < (mN M21 (mR M21 z 6) : Int)) ∧ ∀ M25, M25 = mUL M21 (mR M21 z 6) 2 c → mK M25 (mR M25 z 6) = 33 ∧ ((0 : Int) ≤ 3 ∧ 3 < (mN M25 (mR M25 z 6) : Int)) ∧ ∀ M29, M29 = mUL M25 (mR M25 z 6) 3 d → ∀ v32 : Int, v32 = (if (cmpL b 0 = 0) then 0 else 1) → ffQ M f u0 v0 v32 M29 := by
  obtain ⟨⟨ba, bb, bc, bd⟩, lb, -, or, de, -, pr⟩ := h
  rw [hf, nf]
  refine ⟨hk, kf, ⟨by decide, by decide⟩, fun M17 e17 => ?_⟩
  have f17 := FLo.ul e17
  rw [f17.1, f17.2.1, f17.2.2.1, hf, nf]
  refine ⟨kf, ⟨by decide, by decide⟩, fun M21 e21 => ?_⟩
  have f21 := f17.trans (FLo.ul e21)
  rw [f21.1, f21.2.1, f21.2.2.1, hf, nf]
  refine ⟨kf, ⟨by decide, by decide⟩, fun M25 e25 => ?_⟩
  have f25 := f21.trans (FLo.ul e25)
  rw [f25.1, f25.2.1, f25.2.2.1, hf, nf]
  refine ⟨kf, ⟨by decide, by decide⟩, fun M29 e29 v32 e32 => ?_⟩
  have o29 : mOk M29 := by rw [e29]; exact mOk_UL (by rw [e25]; exact mOk_UL (by rw [e21]; exact mOk_UL (by rw [e17]; exact mOk_UL hO (fac64 ba)) (fac64 bb)) (fac64 bc)) (fac64 bd)
  refine ⟨o29, f25.trans (FLo.ul e29), a, b, c, d, ⟨?_, ?_, ?_, ?_⟩, ⟨ba, bb, bc, bd⟩, or, de, ?_, by rw [e32]; split <;> omega⟩
  · rw [mL_ul f 0 e29, if_neg (fun u => absurd u.2 (by decide)), mL_ul f 0 e25, if_neg (fun u => absurd u.2 (by decide)), mL_ul f 0 e21, if_neg (fun u => absurd u.2 (by decide)), mL_ul f 0 e17, if_pos ⟨rfl, rfl⟩]
  · rw [mL_ul f 1 e29, if_neg (fun u => absurd u.2 (by decide)), mL_ul f 1 e25, if_neg (fun u => absurd u.2 (by decide)), mL_ul f 1 e21, if_pos ⟨rfl, rfl⟩]
  · rw [mL_ul f 2 e29, if_neg (fun u => absurd u.2 (by decide)), mL_ul f 2 e25, if_pos ⟨rfl, rfl⟩]
  · rw [mL_ul f 3 e29, if_pos ⟨rfl, rfl⟩]
  · rcases pr with pr | pr
    · rw [pr, if_pos (j_c0.2 rfl)] at e32
      exact Or.inl e32
    · exact Or.inr pr
theorem ab_i {x : Int} : (if 0 < x then x else -x) ≤ 1073741823 ↔ (-1073741824 < x ∧ x < 1073741824) := by
  split <;> constructor <;> intro h <;> omega
theorem ab_b {x : Int} (h : -1152921505680588800 ≤ x ∧ x ≤ 1152921505680588800) : i64 x ∧ i64 (if 0 < x then x else -x) := by
  unfold i64
  split <;> omega
theorem qc_b {q a c : Int} (hq : 0 ≤ q ∧ q ≤ 1073741823) (ha : fac a) (hc : fac c) : -1152921505680588800 ≤ a - q * c ∧ a - q * c ≤ 1152921505680588800 := by
  unfold fac at ha hc
  have h1 : q * c ≤ q * 1073741823 := Int.mul_le_mul_of_nonneg_left (by omega) hq.1
  have h2 : q * (-1073741823) ≤ q * c := Int.mul_le_mul_of_nonneg_left (by omega) hq.1
  omega
theorem td_b {x y : Int} (hx : 0 ≤ x) (hy : 0 < y) (h : i64 x) : Int.tdiv x y = x / y ∧ i64 (x / y) := by
  refine ⟨Int.tdiv_eq_ediv_of_nonneg hx, ?_⟩
  have h1 := Int.ediv_nonneg hx (Int.le_of_lt hy)
  have h2 := Int.ediv_le_self y hx
  unfold i64 at h ⊢
  omega
theorem j_ceq {x z : Int} : cmpL x z = 0 ↔ x = z := by
  unfold cmpL; split
  · constructor <;> intro h <;> omega
  · split <;> constructor <;> intro h <;> first | omega | contradiction
theorem j_cgt {x z : Int} : 0 < cmpL x z ↔ z < x := by
  unfold cmpL; split
  · constructor <;> intro h <;> omega
  · split <;> constructor <;> intro h <;> omega
theorem s_ff21 {f e : Nat} (hK : 0 < K) (hO : mOk M) (hk : mK M z = 9) (hf : mR M z 6 = f) (kf : mK M f = 33) (nf : mN M f = 4) (hu : u0 < K * 1152921504606846976) (v0p : 0 ≤ v0) : ∀ (t i : Nat) (x y a b c d : Int), 100 ≤ i + t → i ≤ 100 → FS K u0 v0 x y a b c d → h_Sc_findFactors_21 G e z x y a b c d i M (ffQ M f u0 v0) := by
  intro t
  induction t with
  | zero =>
    intro i x y a b c d h1 h2 S
    obtain ⟨⟨ba, bb, bc, bd⟩, lb, ⟨p1, p2, p3, p4⟩, ⟨o1, o2, o3⟩, -⟩ := id S
    obtain ⟨x1, y1⟩ := lb_hi (B := 1152921504606846976) hK lb (by omega) (by omega) ba bb bc bd
    have ba' := id ba
    have bc' := id bc
    unfold fac at ba' bc'
    exact k_Sc_findFactors_21 hO ⟨by omega, by omega⟩ ⟨by omega, by omega⟩ (fac64 ba) (fac64 bb) (fac64 bc) (fac64 bd) ⟨by omega, by omega⟩ ⟨fun u => absurd (by omega) u, fun _ => ff_end hO hk hf kf nf S, fun u => absurd (Or.inl (by omega)) u⟩
  | succ t ih =>
    intro i x y a b c d h1 h2 S
    by_cases ei : i = 100
    · exact ih i x y a b c d (by omega) h2 S
    obtain ⟨⟨ba, bb, bc, bd⟩, lb, ⟨p1, p2, p3, p4⟩, ⟨o1, o2, o3⟩, -⟩ := id S
    obtain ⟨x1, y1⟩ := lb_hi (B := 1152921504606846976) hK lb (by omega) (by omega) ba bb bc bd
    have ba' := id ba
    have bb' := id bb
    have bc' := id bc
    have bd' := id bd
    unfold fac at ba' bb' bc' bd'
    refine k_Sc_findFactors_21 hO ⟨by omega, by omega⟩ ⟨by omega, by omega⟩ (fac64 ba) (fac64 bb) (fac64 bc) (fac64 bd) ⟨by omega, by omega⟩ ⟨fun _ => ⟨⟨by omega, by omega⟩, fun _ => ⟨by omega, by omega⟩⟩, fun _ => ff_end hO hk hf kf nf S, fun u => ?_⟩
    have c0 : y + c ≠ 0 := fun w => u (Or.inr (Or.inl (j_c0.2 w)))
    have d0 : y + d ≠ 0 := fun w => u (Or.inr (Or.inr (j_c0.2 w)))
    obtain ⟨t1, t2⟩ := td_b (x := x + a) (y := y + c) p1 (by omega) ⟨by omega, by omega⟩
    obtain ⟨t3, t4⟩ := td_b (x := x + b) (y := y + d) p2 (by omega) ⟨by omega, by omega⟩
    rw [t1, t3]
    generalize eq : (x + a) / (y + c) = q at *
    refine ⟨⟨by omega, by omega⟩, ⟨by omega, by omega⟩, c0, ⟨by omega, by omega⟩, ⟨by omega, by omega⟩, d0, t2, t4, fun w1 => ⟨fun w2 => ?_, fun _ => ff_end hO hk hf kf nf S⟩, fun _ => ff_end hO hk hf kf nf S⟩
    have w1' := j_ceq.1 w1
    have w2' := j_cle.1 w2
    have q0 : 0 ≤ q := by rw [← eq]; exact Int.ediv_nonneg p1 (by omega)
    obtain ⟨m1, m2⟩ := ab_b (qc_b ⟨q0, w2'⟩ ba bc)
    obtain ⟨m3, m4⟩ := ab_b (qc_b ⟨q0, w2'⟩ bb bd)
    refine ⟨m1, m2, fun _ => ff_end hO hk hf kf nf S, fun w3 => ⟨m3, m4, fun w4 => ?_, fun _ => ff_end hO hk hf kf nf S⟩⟩
    have f1 : fac (a - q * c) := ab_i.1 (Int.not_lt.1 (fun u => w3 (j_cgt.2 u)))
    have f2 : fac (b - q * d) := ab_i.1 (j_cle.1 w4)
    rw [show ((i : Int) + 1) = ((i + 1 : Nat) : Int) by first | rfl | omega]
    exact ih (i + 1) _ _ _ _ _ _ (by omega) (by omega) (S.step hK v0p (by omega) (by omega) eq.symm w1' f1 f2)
theorem s_Sc_findFactors {f e : Nat} (hK : 0 < K) (hO : mOk M) (hk : mK M z = 9) (hf : mR M z 6 = f) (kf : mK M f = 33) (nf : mN M f = 4) (hu : u0 < K * 1152921504606846976) (h0 : 0 ≤ v0) (h : v0 ≤ u0) : Ci G y_Sc_findFactors (e + 1) [vr z, vl (u0 / K), vl (v0 / K)] M (ffQ M f u0 v0) := by
  have a1 := Int.mul_ediv_self_le (x := u0) (k := K) (by omega)
  have a2 := Int.lt_mul_ediv_self_add (x := u0) (k := K) hK
  have a3 := Int.mul_ediv_self_le (x := v0) (k := K) (by omega)
  have a4 := Int.lt_mul_ediv_self_add (x := v0) (k := K) hK
  have b1 := Int.ediv_nonneg (show 0 ≤ u0 by omega) (Int.le_of_lt hK)
  have b2 := Int.ediv_nonneg h0 (Int.le_of_lt hK)
  have b3 : u0 / K < 1152921504606846976 := Int.ediv_lt_of_lt_mul hK (by rw [Int.mul_comm]; exact hu)
  have b4 : v0 / K < 1152921504606846976 := Int.ediv_lt_of_lt_mul hK (by rw [Int.mul_comm]; omega)
  refine k_Sc_findFactors hO ⟨by omega, by omega⟩ ⟨by omega, by omega⟩ ?_
  exact s_ff21 hK hO hk hf kf nf hu h0 100 0 _ _ 1 0 0 1 (by omega) (by omega) (FS.init a1 (by rw [Int.mul_add, Int.mul_one]; exact a2) a3 (by rw [Int.mul_add, Int.mul_one]; exact a4) b1 b2 h0 h)
end NAQ
end
section
/-! Euclid with longs (Fibonacci's bound); the Scales' places and frames. -/
section NAR
variable {G : mG} {d a b c z n m w : Nat} {M M' M1 M2 M3 : mM} {L : List Nat} {W : Nat → Nat} {T T' I I' : Nat → Prop} {r r' : Prop}
/-- Fibonacci's numbers, in pairs -/
def fbp : Nat → Nat × Nat
  | 0 => (0, 1)
  | n + 1 => ((fbp n).2, (fbp n).1 + (fbp n).2)
def fb (n : Nat) : Nat := (fbp n).1
theorem fb_s (n : Nat) : fb (n + 2) = fb n + fb (n + 1) := rfl
theorem fb_st {m a b : Nat} (hb : 0 < b) (h : b < fb (m + 2) ∨ (a < fb (m + 3) ∧ b < a)) : (a % b < fb (m + 1) ∨ (b < fb (m + 2) ∧ a % b < b)) := by
  have h1 := Nat.mod_lt a hb
  by_cases u : b < fb (m + 2)
  · exact Or.inr ⟨u, h1⟩
  · rcases h with h | ⟨h2, h3⟩
    · exact absurd h u
    · refine Or.inl ?_
      have h4 : a % b ≤ a - b := by
        rw [Nat.mod_eq_sub_mod (by omega)]
        exact Nat.mod_le _ _
      have h5 : fb (m + 3) = fb (m + 1) + fb (m + 2) := fb_s (m + 1)
      omega
theorem s_Ma_gcdL {x y : Nat} (hx : x < 1152921504606846976) (hy : y < 1152921504606846976) (xy : 1 ≤ x) (hO : mOk M) : Cj G y_Ma_commonDivisor d [vl x, vl y] M (fun r M' => M' = M ∧ ∃ w : Nat, r = ((w : Nat) : Int) ∧ (1 ≤ w ∧ w < 1152921504606846976) ∧ w ∣ x ∧ w ∣ y ∧ ∀ g : Nat, g ∣ x → g ∣ y → g ∣ w) := by
  refine k_Ma_commonDivisor hO ⟨by omega, by omega⟩ ⟨by omega, by omega⟩ (fun v2 e2 => ?_)
  have v0 : v2 = x := by
    have := (cmpz x 0).1
    rw [e2, if_pos (by rw [this]; omega)]
  subst v0
  suffices HH : ∀ (s i a b : Nat), 100 = i + s → a < 1152921504606846976 → b < 1152921504606846976 → (∀ w, w ∣ a → w ∣ b → w ∣ x ∧ w ∣ y) → (∀ g : Nat, g ∣ x → g ∣ y → g ∣ a ∧ g ∣ b) → (1 ≤ a ∨ 1 ≤ b) → (b < fb (s + 1) ∨ (a < fb (s + 2) ∧ b < a)) → h_Ma_commonDivisor_20 G d a b i M (fun r M' => M' = M ∧ ∃ w : Nat, r = ((w : Nat) : Int) ∧ (1 ≤ w ∧ w < 1152921504606846976) ∧ w ∣ x ∧ w ∣ y ∧ ∀ g : Nat, g ∣ x → g ∣ y → g ∣ w) from HH 100 0 x y (by omega) hx hy (fun w h1 h2 => ⟨h1, h2⟩) (fun g h1 h2 => ⟨h1, h2⟩) (Or.inl xy) (Or.inl (Nat.lt_trans hy (by decide)))
  intro s
  induction s with
  | zero =>
    intro i a b hs ha hb hd hd2 h1 hk
    have b0 : b = 0 := by
      have f1 : fb 1 = 1 := rfl
      have f2 : fb 2 = 1 := rfl
      have hk' : b < fb 1 ∨ (a < fb 2 ∧ b < a) := hk
      omega
    have ca := (cmpz (a : Int) 0).2.2.2.1
    refine k_Ma_commonDivisor_20 hO ⟨by omega, by omega⟩ ⟨by omega, by omega⟩ (i32s (by omega) (by omega)) ⟨fun _ v12 e12 => ?_, fun q => absurd (Or.inl (by omega)) q⟩
    clear hk
    rw [if_neg (by rw [ca]; omega)] at e12
    rw [e12]
    have := hd a (Nat.dvd_refl _) (by rw [b0]; exact Nat.dvd_zero _)
    exact ⟨rfl, a, rfl, ⟨by omega, ha⟩, this.1, this.2, fun g g1 g2 => (hd2 g g1 g2).1⟩
  | succ s ih =>
    intro i a b hs ha hb hd hd2 h1 hk
    have ca := (cmpz (a : Int) 0).2.2.2.1
    have cb := (cmpz (b : Int) 0).2.2.2.1
    refine k_Ma_commonDivisor_20 hO ⟨by omega, by omega⟩ ⟨by omega, by omega⟩ (i32s (by omega) (by omega)) ⟨fun q v12 e12 => ?_, fun q => ?_⟩
    · have b0 : b = 0 := by
        rcases q with q | q
        · omega
        · rw [cb] at q
          omega
      clear hk
      rw [if_neg (by rw [ca]; omega)] at e12
      rw [e12]
      have := hd a (Nat.dvd_refl _) (by rw [b0]; exact Nat.dvd_zero _)
      exact ⟨rfl, a, rfl, ⟨by omega, ha⟩, this.1, this.2, fun g g1 g2 => (hd2 g g1 g2).1⟩
    · have b0 : 0 < b := by
        by_cases t : b = 0
        · exact absurd (Or.inr (by rw [cb]; omega)) q
        · omega
      have em : Int.tmod (a : Int) (b : Int) = ((a % b : Nat) : Int) := by rw [Int.tmod_eq_emod_of_nonneg (by omega)]; rfl
      have ml := Nat.mod_lt a b0
      rw [em, show ((i : Int) + 1) = ((i + 1 : Nat) : Int) by first | rfl | omega]
      refine ⟨by omega, ih (i + 1) b (a % b) (by omega) hb (by omega) (fun w w1 w2 => ?_) (fun g g1 g2 => ⟨(hd2 g g1 g2).2, (Nat.dvd_mod_iff (hd2 g g1 g2).2).2 (hd2 g g1 g2).1⟩) (Or.inl b0) (fb_st b0 hk)⟩
      have wa : w ∣ a := by
        have := Nat.div_add_mod a b
        rw [← this]
        exact Nat.dvd_add (Nat.dvd_trans w1 (Nat.dvd_mul_right _ _)) w2
      exact hd w wa w1
/-- a frame with longs -/
def FD (S R D : Nat → Prop) (M M' : mM) : Prop := (mZ M ≤ mZ M' ∧ mS M ≤ mS M') ∧ ∀ x, x < mZ M → mK M' x = mK M x ∧ mN M' x = mN M x ∧ (¬ D x → mL M' x = mL M x) ∧ (¬ R x → mR M' x = mR M x) ∧ (¬ S x → mI M' x = mI M x)
theorem FD.refl {S R D : Nat → Prop} : FD S R D M M := ⟨⟨Nat.le_refl _, Nat.le_refl _⟩, fun _ _ => ⟨rfl, rfl, fun _ => rfl, fun _ => rfl, fun _ => rfl⟩⟩
theorem FD.trans2 {S R D S' R' D' : Nat → Prop} (h : FD S R D M M1) (k : FD S' R' D' M1 M2) (hS : ∀ x, x < mZ M → S' x → S x) (hR : ∀ x, x < mZ M → R' x → R x) (hD : ∀ x, x < mZ M → D' x → D x) : FD S R D M M2 := by
  obtain ⟨⟨h1, h2⟩, h3⟩ := h
  obtain ⟨⟨k1, k2⟩, k3⟩ := k
  refine ⟨⟨by omega, by omega⟩, fun x hx => ?_⟩
  obtain ⟨a1, a2, a3, a4, a5⟩ := h3 x hx
  obtain ⟨b1, b2, b3, b4, b5⟩ := k3 x (by omega)
  exact ⟨b1.trans a1, b2.trans a2, fun z => (b3 (fun y => z (hD x hx y))).trans (a3 z), fun z => (b4 (fun y => z (hR x hx y))).trans (a4 z), fun z => (b5 (fun y => z (hS x hx y))).trans (a5 z)⟩
theorem FD.mono {S R D S' R' D' : Nat → Prop} (h : FD S R D M M1) (hS : ∀ x, x < mZ M → S x → S' x) (hR : ∀ x, x < mZ M → R x → R' x) (hD : ∀ x, x < mZ M → D x → D' x) : FD S' R' D' M M1 :=
  ⟨h.1, fun x hx => ⟨(h.2 x hx).1, (h.2 x hx).2.1, fun z => (h.2 x hx).2.2.1 (fun y => z (hD x hx y)), fun z => (h.2 x hx).2.2.2.1 (fun y => z (hR x hx y)), fun z => (h.2 x hx).2.2.2.2 (fun y => z (hS x hx y))⟩⟩
theorem FA.fd {S R D : Nat → Prop} (h : FA S R M M1) : FD S R D M M1 := ⟨h.1, fun x hx => ⟨(h.2 x hx).1, (h.2 x hx).2.1, fun _ => (h.2 x hx).2.2.1, (h.2 x hx).2.2.2.1, (h.2 x hx).2.2.2.2⟩⟩
/-- numbers of T, the small factors of the fractions of I, the Scales' longs, and (where r) its own references -/
def NL (L : List Nat) (W : Nat → Nat) (T I : Nat → Prop) (r : Prop) (z : Nat) (M M' : mM) : Prop := (mOk M' ∧ NF L W M') ∧ ((∀ t, T t → t ∈ L) ∧ (∀ x, I x → x < mZ M ∧ mK M x = 11) ∧ (z < mZ M ∧ mK M z = 9)) ∧ FD (fun x => nsS M T x ∨ I x) (fun x => T x ∨ (x = z ∧ r)) (fun x => x = z + 13) M M' ∧ (∀ t, T t → mR M' t 0 = mR M t 0 ∨ mZ M ≤ mR M' t 0) ∧ RmN L M M'
theorem NL.nf (h : NL L W T I r z M M') : NF L W M' := h.1.2
theorem NL.ok (h : NL L W T I r z M M') : mOk M' := h.1.1
theorem NL.kind (h : NL L W T I r z M M') {x : Nat} (hx : x < mZ M) : mK M' x = mK M x := (h.2.2.1.2 x hx).1
theorem NL.refl (hO : mOk M) (h : NF L W M) (hT : ∀ t, T t → t ∈ L) (hI : ∀ x, I x → x < mZ M ∧ mK M x = 11) (hz : z < mZ M ∧ mK M z = 9) : NL L W T I r z M M := ⟨⟨hO, h⟩, ⟨hT, hI, hz⟩, FD.refl, fun _ _ => Or.inl rfl, RmN.refl⟩
theorem NL.trans (h : NL L W T I r z M M1) (k : NL L W T I r z M1 M2) : NL L W T I r z M M2 := by
  obtain ⟨-, h2, h3, h4, h5⟩ := h
  obtain ⟨k1, -, k3, k4, k5⟩ := k
  refine ⟨k1, h2, h3.trans2 k3 ?_ (fun _ _ y => y) (fun _ _ y => y), fun t ht => ?_, h5.trans k5⟩
  · intro x hx u
    rcases u with (u | ⟨t, ht, u⟩) | u
    · exact Or.inl (Or.inl u)
    · rcases h4 t ht with q | q
      · exact Or.inl (Or.inr ⟨t, ht, by rw [u, q]⟩)
      · omega
    · exact Or.inr u
  · rcases k4 t ht with q | q
    · rw [q]; exact h4 t ht
    · exact Or.inr (Nat.le_trans h3.1.1 q)
theorem NF.nz (hF : NF L W M) (hz : mK M z = 9) (ha : a ∈ L) : a ≠ z ∧ mR M a 0 ≠ z := by
  have h1 := hF.kd ha
  have h2 := hF.ka ha
  exact ⟨fun u => by rw [u, hz] at h1; omega, fun u => by rw [u, hz] at h2; omega⟩
theorem NF.nI (hF : NF L W M) {x : Nat} (hx : mK M x = 11) (ha : a ∈ L) : a ≠ x ∧ mR M a 0 ≠ x := by
  have h1 := hF.kd ha
  have h2 := hF.ka ha
  exact ⟨fun u => by rw [u, hx] at h1; omega, fun u => by rw [u, hx] at h2; omega⟩
theorem NL.mono (h : NL L W T I r z M M1) (hr : NF L W M) (hT : ∀ t, T t → T' t) (hL : ∀ t, T' t → t ∈ L) (hI : ∀ x, I x → I' x) (hI' : ∀ x, I' x → x < mZ M ∧ mK M x = 11) (rr : r → r') : NL L W T' I' r' z M M1 := by
  obtain ⟨h1, ⟨-, -, hz⟩, h3, h4, h5⟩ := h
  refine ⟨h1, ⟨hL, hI', hz⟩, h3.mono (fun x _ u => ?_) (fun x _ u => u.elim (fun u => Or.inl (hT x u)) (fun u => Or.inr ⟨u.1, rr u.2⟩)) (fun _ _ u => u), fun t ht => ?_, h5⟩
  · rcases u with (u | ⟨t, ht, u⟩) | u
    · exact Or.inl (Or.inl (hT x u))
    · exact Or.inl (Or.inr ⟨t, hT t ht, u⟩)
    · exact Or.inr (hI x u)
  · by_cases c : T t
    · exact h4 t c
    · refine Or.inl ?_
      rw [(h3.2 t (hr.lt (hL t ht)).1).2.2.2.1 (fun u => u.elim c (fun u => (hr.nz hz.2 (hL t ht)).1 u.1))]
theorem NC.nl (h : NC L W T M M1) (hI : ∀ x, I x → x < mZ M ∧ mK M x = 11) (hz : z < mZ M ∧ mK M z = 9) : NL L W T I r z M M1 := by
  obtain ⟨h1, h2, h3, h4, h5⟩ := h
  exact ⟨h1, ⟨h2, hI, hz⟩, (h3.fd (D := fun x => x = z + 13)).mono (fun x _ u => Or.inl u) (fun x _ u => Or.inl u) (fun _ _ u => u), h4, h5⟩
/-- what is not of T stays -/
theorem NL.num (h : NL L W T I r z M M') (hF : NF L W M) (hb : b ∈ L) (hT : ¬ T b) : mR M' b = mR M b ∧ sz M' b = sz M b ∧ nv M' b = nv M b := by
  obtain ⟨-, ⟨h2, hI, hz⟩, h3, h4, -⟩ := h
  obtain ⟨z1, z2⟩ := hF.lt hb
  have n1 : ¬ (nsS M T b ∨ I b) := by
    rintro ((u | ⟨t, ht, u⟩) | u)
    · exact hT u
    · exact hF.na hb (h2 t ht) u
    · exact (hF.nI (hI b u).2 hb).1 rfl
  have n2 : ¬ (nsS M T (mR M b 0) ∨ I (mR M b 0)) := by
    rintro ((u | ⟨t, ht, u⟩) | u)
    · exact hF.na (h2 _ u) hb rfl
    · exact hT (by rw [hF.2.2 b t hb (h2 t ht) u]; exact ht)
    · exact (hF.nI (hI _ u).2 hb).2 rfl
  have a1 := (h3.2 b z1).2.2.2.1 (fun u => u.elim hT (fun u => (hF.nz hz.2 hb).1 u.1))
  have a2 := (h3.2 b z1).2.2.2.2 n1
  have a3 := (h3.2 _ z2).2.2.2.2 n2
  have a4 : sz M' b = sz M b := by unfold sz; rw [a2]
  exact ⟨a1, a4, by unfold nv; rw [a4, a1, a3]⟩
/-- other cells stay: f is no number, no number's limbs, not the Scales -/
theorem NL.cell (h : NL L W T I r z M M') (hF : NF L W M) {x : Nat} (hx : x < mZ M) (h10 : mK M x ≠ 10) (h30 : mK M x ≠ 30) (h9 : mK M x ≠ 9) : mK M' x = mK M x ∧ mN M' x = mN M x ∧ mR M' x = mR M x ∧ (¬ I x → mI M' x = mI M x) := by
  obtain ⟨-, ⟨h2, hI, hz⟩, h3, h4, -⟩ := h
  obtain ⟨a1, a2, a3, a4, a5⟩ := h3.2 x hx
  refine ⟨a1, a2, a4 ?_, fun ni => a5 ?_⟩
  · rintro (u | ⟨u, -⟩)
    · exact h10 (hF.kd (h2 x u))
    · rw [u] at h9; exact h9 hz.2
  · rintro ((u | ⟨t, ht, u⟩) | u)
    · exact h10 (hF.kd (h2 x u))
    · rw [u] at h30; exact h30 (hF.ka (h2 t ht))
    · exact ni u
/-- the search for factors is a step -/
theorem FLo.nl (h : FLo (z + 13) M M') (o : mOk M') (hF : NF L W M) (hT : ∀ t, T t → t ∈ L) (hI : ∀ x, I x → x < mZ M ∧ mK M x = 11) (hz : z < mZ M ∧ mK M z = 9) : NL L W T I r z M M' := by
  obtain ⟨h1, h2, h3, h4, h5, h6, h7⟩ := h
  have cc : ∀ b, cp M' b = cp M b := fun b => by unfold cp; rw [h3, h2]
  have nt' : ∀ {a Y C s : Nat}, Nt M a Y C s → Nt M' a Y C s := by
    intro a Y C s t
    unfold Nt Nl lim at t ⊢
    rw [h1, h2, h3, h4, h5]
    exact t
  refine ⟨⟨o, hF.1, fun a ha => ⟨(nt' (hF.nt ha)).nn, by rw [cc]; exact (hF.2.1 a ha).2.1, (hF.2.1 a ha).2.2⟩, fun a b ha hb u => hF.2.2 a b ha hb (by rw [← h3]; exact u)⟩, ⟨hT, hI, hz⟩, ⟨⟨by rw [h5]; exact Nat.le_refl _, by rw [h6]; exact Nat.le_refl _⟩, fun x _ => ⟨by rw [h1], by rw [h2], fun u => h7 x u, fun _ => by rw [h3], fun _ => by rw [h4]⟩⟩, fun t _ => Or.inl (by rw [h3]), ?_⟩
  unfold RmN
  rw [show cp M' = cp M from funext cc, h5, h6]
  exact ⟨Nat.le_refl _, Nat.le_refl _⟩
theorem FLo.nv (h : FLo z M M') (a : Nat) : nv M' a = nv M a ∧ sz M' a = sz M a := by
  obtain ⟨h1, h2, h3, h4, h5, h6, h7⟩ := h
  unfold Jvm.Pilot.CChanceArenaLaw_law_r3235_da7f30.nv sz
  rw [h3, h4]
  exact ⟨rfl, rfl⟩
/-- a fraction's places -/
def FrP (M : mM) (f : Nat) : Prop := mK M f = 11 ∧ (mR M f 0 = f + 1 ∧ mR M f 1 = f + 3) ∧ f < mZ M
/-- the Scales' places -/
def SK (L : List Nat) (M : mM) (z : Nat) : Prop := (mK M z = 9 ∧ z < mZ M) ∧ (mR M z 0 = z + 1 ∧ mR M z 1 = z + 3 ∧ mR M z 2 = z + 5 ∧ mR M z 3 = z + 7 ∧ mR M z 4 = z + 9 ∧ mR M z 5 = z + 11 ∧ mR M z 6 = z + 13 ∧ mR M z 7 = z + 14 ∧ mR M z 8 = z + 16) ∧ ((mR M z 9 = z + 18 ∧ mR M z 10 = z + 23) ∨ (mR M z 9 = z + 23 ∧ mR M z 10 = z + 18)) ∧ (mK M (z + 13) = 33 ∧ mN M (z + 13) = 4 ∧ z + 13 < mZ M) ∧ (FrP M (z + 18) ∧ FrP M (z + 23)) ∧ (z + 1 ∈ L ∧ z + 3 ∈ L ∧ z + 5 ∈ L ∧ z + 7 ∈ L ∧ z + 9 ∈ L ∧ z + 11 ∈ L ∧ z + 14 ∈ L ∧ z + 16 ∈ L) ∧ (z + 19 ∈ L ∧ z + 21 ∈ L ∧ z + 24 ∈ L ∧ z + 26 ∈ L)
theorem NL.frp (h : NL L W T I r z M M') (hF : NF L W M) {f : Nat} (hf : FrP M f) : FrP M' f ∧ (¬ I f → mI M' f = mI M f) := by
  obtain ⟨k, p, l⟩ := hf
  obtain ⟨a1, a2, a3, a4⟩ := h.cell hF l (by rw [k]; decide) (by rw [k]; decide) (by rw [k]; decide)
  exact ⟨⟨by rw [a1]; exact k, by rw [a3]; exact p, Nat.lt_of_lt_of_le l h.2.2.1.1.1⟩, a4⟩
theorem NL.sk (h : NL L W T I False z M M') (hF : NF L W M) (hS : SK L M z) : SK L M' z := by
  obtain ⟨⟨k1, k2⟩, k3, k4, ⟨k5, k6, k7⟩, ⟨k8, k9⟩, k10, k11⟩ := hS
  have zz := h.2.2.1.1.1
  have rz : mR M' z = mR M z := (h.2.2.1.2 z k2).2.2.2.1 (fun u => u.elim (fun u => (hF.nz k1 (h.2.1.1 z u)).1 rfl) (fun u => u.2))
  obtain ⟨a1, a2, -⟩ := h.cell hF k7 (by rw [k5]; decide) (by rw [k5]; decide) (by rw [k5]; decide)
  exact ⟨⟨by rw [h.kind k2]; exact k1, Nat.lt_of_lt_of_le k2 zz⟩, by rw [rz]; exact k3, by rw [rz]; exact k4, ⟨by rw [a1]; exact k5, by rw [a2]; exact k6, Nat.lt_of_lt_of_le k7 zz⟩, ⟨(h.frp hF k8).1, (h.frp hF k9).1⟩, k10, k11⟩
end NAR
end
section
/-! The Scales: a greatest common divisor. -/
section NAS
variable {G : mG} {d a b c z n m w S : Nat} {M M' M1 M2 M3 : mM} {L : List Nat} {W : Nat → Nat} {T T' I I' : Nat → Prop} {r r' : Prop} {u0 v0 : Int}
/-- the four numbers that it works with -/
def T4 (z x : Nat) : Prop := x = z + 1 ∨ x = z + 3 ∨ x = z + 5 ∨ x = z + 7
theorem SK.t4 (h : SK L M z) : ∀ t, T4 z t → t ∈ L := by
  intro t ht
  obtain ⟨-, -, -, -, -, ⟨h1, h2, h3, h4, -⟩, -⟩ := h
  rcases ht with u | u | u | u
  · rw [u]; exact h1
  · rw [u]; exact h2
  · rw [u]; exact h3
  · rw [u]; exact h4
theorem SK.z9 (h : SK L M z) : z < mZ M ∧ mK M z = 9 := ⟨h.1.2, h.1.1⟩
/-- the larger and the smaller -/
def Lsm (z a b : Nat) : Prop := (a = z + 1 ∧ b = z + 3) ∨ (a = z + 3 ∧ b = z + 1)
theorem Lsm.swap (h : Lsm z a b) : Lsm z b a := h.elim (fun u => Or.inr ⟨u.2, u.1⟩) (fun u => Or.inl ⟨u.2, u.1⟩)
theorem Lsm.t1 (h : Lsm z a b) : T4 z a ∧ T4 z b := by
  rcases h with ⟨u, v⟩ | ⟨u, v⟩
  · exact ⟨Or.inl u, Or.inr (Or.inl v)⟩
  · exact ⟨Or.inr (Or.inl u), Or.inl v⟩
theorem Lsm.ne (h : Lsm z a b) : a ≠ b ∧ a ≠ z + 5 ∧ a ≠ z + 7 ∧ b ≠ z + 5 ∧ b ≠ z + 7 := by
  rcases h with ⟨u, v⟩ | ⟨u, v⟩ <;> subst u <;> subst v <;> omega
/-- room for numbers of S limbs -/
def W4 (W : Nat → Nat) (z S : Nat) : Prop := S + 2 ≤ W (z + 1) ∧ S + 2 ≤ W (z + 3) ∧ S + 2 ≤ W (z + 5) ∧ S + 2 ≤ W (z + 7)
theorem Lsm.wd (h : Lsm z a b) (hw : W4 W z S) : S + 2 ≤ W a ∧ S + 2 ≤ W b := by
  obtain ⟨h1, h2, -, -⟩ := hw
  rcases h with ⟨u, v⟩ | ⟨u, v⟩ <;> subst u <;> subst v
  · exact ⟨h1, h2⟩
  · exact ⟨h2, h1⟩
def gdQ (L : List Nat) (W : Nat → Nat) (z : Nat) (u0 v0 : Int) (M : mM) (r : Nat) (M' : mM) : Prop := (r = z + 1 ∨ r = z + 3) ∧ NL L W (T4 z) (fun _ => False) False z M M' ∧ 0 < nv M' r ∧ nv M' r ∣ u0 ∧ nv M' r ∣ v0 ∧ ∀ g : Int, g ∣ u0 → g ∣ v0 → g ∣ nv M' r
theorem Lsm.rr (h : Lsm z a b) : a = z + 1 ∨ a = z + 3 := h.elim (fun u => Or.inl u.1) (fun u => Or.inr u.1)
theorem noI : ∀ x, (fun _ : Nat => False) x → x < mZ M ∧ mK M x = 11 := fun _ u => u.elim
/-- small numbers -/
theorem s_gc_small {M0 : mM} (hO : mOk M) (hF : NF L W M) (hF0 : NF L W M0) (hS : SK L M z) (hN : NL L W (T4 z) (fun _ => False) False z M0 M) (ls : Lsm z a b) (de : DE u0 v0 (nv M a) (nv M b)) (ab : nv M b ≤ nv M a) (p : 0 < nv M a) (s2 : sz M a < 3) : Cj G y_Na_bitsFrom (d + 3) [vr a, vi 0] M (fun x70 M69 => i64 x70 ∧ mOk M69 ∧ (mK M69 b = 10 ∧ Cj G y_Na_bitsFrom (d + 3) [vr b, vi 0] M69 (fun x74 M73 => i64 x74 ∧ mOk M73 ∧ (Cj G y_Ma_commonDivisor (d + 3) [vl x70, vl x74] M73 (fun x77 M76 => i64 x77 ∧ mOk M76 ∧ (mK M76 a = 10 ∧ Cv G y_Na_putLong (d + 3) [vr a, vl x77] M76 (fun M80 => mOk M80 ∧ (gdQ L W z u0 v0 M0 a M80)))))))) := by
  have hT := hS.t4
  have ha := hT a ls.t1.1
  have hb := hT b ls.t1.2
  have va : nv M a < 1152921504606846976 := by
    have h1 := hF.vlt ha
    have h2 := p30m (m := sz M a) (k := 2) (by omega)
    have h3 : (2 : Int) ^ (30 * 2) = 1152921504606846976 := by decide
    omega
  have nb := hF.nn0 hb
  have h60 : (2 : Int) ^ (0 + 60) = 1152921504606846976 := by decide
  have h1 : ∀ x : Int, x / 2 ^ 0 = x := fun x => by rw [show (2 : Int) ^ 0 = 1 by decide, Int.ediv_one]
  refine (s_Na_bitsFrom (bit := 0) hO (hF.nt ha) (by decide) (by rw [h60]; exact va)).mono (fun x M69 k => ?_)
  obtain ⟨e1, e2⟩ := k
  rw [h1] at e2
  have e2' : x = nv M a := e2
  rw [e1, e2']
  refine ⟨⟨by omega, by omega⟩, hO, hF.kd hb, (s_Na_bitsFrom (bit := 0) hO (hF.nt hb) (by decide) (by rw [h60]; exact Int.lt_of_le_of_lt ab va)).mono (fun y M73 k => ?_)⟩
  obtain ⟨f1, f2⟩ := k
  rw [h1] at f2
  have f2' : y = nv M b := f2
  rw [f1, f2']
  obtain ⟨x, hx⟩ : ∃ x : Nat, nv M a = ((x : Nat) : Int) := ⟨(nv M a).toNat, by omega⟩
  obtain ⟨y, hy⟩ : ∃ y : Nat, nv M b = ((y : Nat) : Int) := ⟨(nv M b).toNat, by omega⟩
  rw [hx] at de p va ab ⊢
  rw [hy] at de nb ab ⊢
  refine ⟨⟨by omega, by omega⟩, hO, (s_Ma_gcdL (x := x) (y := y) (by omega) (by omega) (by omega) hO).mono (fun g M76 k => ?_)⟩
  obtain ⟨g1, w, g2, g3, g4, g5, g6⟩ := k
  rw [g1, g2]
  refine ⟨⟨by omega, by omega⟩, hO, hF.kd ha, (f_putLong (d := d + 2) (x := ((w : Nat) : Int)) ⟨by omega, by omega⟩ hO hF ha).mono (fun M80 k => ?_)⟩
  obtain ⟨c1, v1⟩ := k
  have dv := (de ((w : Nat) : Int)).2 ⟨Int.natCast_dvd_natCast.2 g4, Int.natCast_dvd_natCast.2 g5⟩
  refine ⟨c1.ok, ls.rr, hN.trans ((c1.nl noI hS.z9).mono hF (fun t ht => by rw [ht]; exact ls.t1.1) hT (fun _ u => u) noI (fun u => u)), by rw [v1]; omega, by rw [v1]; exact dv.1, by rw [v1]; exact dv.2, fun g a1 a2 => ?_⟩
  rw [v1]
  obtain ⟨b1, b2⟩ := (de g).1 ⟨a1, a2⟩
  have q := g6 g.natAbs (Int.natAbs_dvd_natAbs.2 b1) (Int.natAbs_dvd_natAbs.2 b2)
  exact Int.natAbs_dvd_natAbs.1 q
theorem pr_h2 {k : Nat} {x y t : Int} (h : x * y < 2 ^ (k + 1)) (h2 : 2 * t ≤ x * y) : t < 2 ^ k := by
  rw [Int.pow_succ] at h
  omega
/-- the loop -/
theorem s_gc58 {M0 : mM} (hF0 : NF L W M0) (hS0 : SK L M0 z) (hw : W4 W z S) : ∀ (t i a b : Nat) (M : mM), 1000000 = i + t → NL L W (T4 z) (fun _ => False) False z M0 M → Lsm z a b → DE u0 v0 (nv M a) (nv M b) → nv M b ≤ nv M a → 0 < nv M a → sz M a ≤ S → nv M a * nv M b < 2 ^ t → h_Sc_commonDivisor_58 G (d + 3) z a b i M (gdQ L W z u0 v0 M0) := by
  have fin : ∀ {a b : Nat} {M : mM}, NL L W (T4 z) (fun _ => False) False z M0 M → Lsm z a b → DE u0 v0 (nv M a) (nv M b) → 0 < nv M a → nv M b = 0 → gdQ L W z u0 v0 M0 a M := by
    intro a b M hN ls de p z0
    have dv := (de (nv M a)).2 ⟨Int.dvd_refl _, by rw [z0]; exact Int.dvd_zero _⟩
    exact ⟨ls.rr, hN, p, dv.1, dv.2, fun g a1 a2 => ((de g).1 ⟨a1, a2⟩).1⟩
  intro t
  induction t with
  | zero =>
    intro i a b M ht hN ls de ab p hs pr
    have hS := hN.sk hF0 hS0
    have hF := hN.nf
    have ha := hS.t4 a ls.t1.1
    have hb := hS.t4 b ls.t1.2
    have nb := hF.nn0 hb
    have z0 : nv M b = 0 := by
      refine Classical.byContradiction (fun u => ?_)
      have := Int.mul_le_mul_of_nonneg_left (show 1 ≤ nv M b by omega) (Int.le_of_lt p)
      have e : (2 : Int) ^ 0 = 1 := by decide
      omega
    exact k_Sc_commonDivisor_58 hN.ok ⟨by omega, by omega⟩ ⟨fun u => absurd (by omega) u, fun _ => fin hN ls de p z0, fun u => absurd (Or.inl (by omega)) u⟩
  | succ t ih =>
    intro i a b M ht hN ls de ab p hs pr
    have hS := hN.sk hF0 hS0
    have hF := hN.nf
    have hO := hN.ok
    have ha := hS.t4 a ls.t1.1
    have hb := hS.t4 b ls.t1.2
    have nb := hF.nn0 hb
    have tb := hF.nt hb
    have ta := hF.nt ha
    have sb := hF.szm hF hb ha ab
    obtain ⟨n1, n2, n3, n4, n5⟩ := ls.ne
    refine k_Sc_commonDivisor_58 hO ⟨by omega, by omega⟩ ?_
    rw [tb.2.1, ta.2.1]
    refine ⟨fun _ => hF.kd hb, fun u => fin hN ls de p ((hF.sz0 hb).1 (by omega)), fun u => ⟨hF.kd ha, fun y => ?_, fun y => s_gc_small (d := d) hO hF hF0 hS hN ls de ab p (by omega)⟩⟩
    have b0 : 0 < nv M b := by
      refine Classical.byContradiction (fun w => u (Or.inr ?_))
      have := (hF.sz0 hb).2 (by omega)
      omega
    refine (s_Na_bits (d := d + 2) hO ta).mono (fun x42 M41 k => ?_)
    obtain ⟨e1, n, e2, k1, k2, k3, -⟩ := k
    obtain ⟨k4, k5⟩ := k3 (by omega)
    have k2' : nv M a < 2 ^ n := k2
    have cb := hF.cb ha
    have sc := hF.sc ha
    rw [e1, e2, show ((n : Nat) : Int) - 60 = ((n - 60 : Nat) : Int) by first | rfl | omega]
    have n60 : n - 60 + 60 = n := by omega
    refine ⟨⟨by omega, by omega⟩, hO, hF.kd ha, (s_Na_bitsFrom (bit := n - 60) hO ta (by omega) (by rw [n60]; exact k2)).mono (fun x46 M45 k => ?_)⟩
    obtain ⟨f1, f2⟩ := k
    have K0 : (0 : Int) < 2 ^ (n - 60) := Int.pow_pos (by decide)
    have kk : nv M a < 2 ^ (n - 60) * 1152921504606846976 := by
      rw [show (1152921504606846976 : Int) = 2 ^ 60 by decide, ← Int.pow_add, n60]
      exact k2'
    have f2' : x46 = nv M a / 2 ^ (n - 60) := f2
    have q1 : 0 ≤ nv M a / 2 ^ (n - 60) := Int.ediv_nonneg (by omega) (by omega)
    have q2 : nv M a / 2 ^ (n - 60) < 1152921504606846976 := Int.ediv_lt_of_lt_mul K0 (by rw [Int.mul_comm]; exact kk)
    have q3 : 0 ≤ nv M b / 2 ^ (n - 60) := Int.ediv_nonneg (by omega) (by omega)
    have q4 : nv M b / 2 ^ (n - 60) < 1152921504606846976 := Int.ediv_lt_of_lt_mul K0 (by rw [Int.mul_comm]; omega)
    rw [f1, f2']
    refine ⟨⟨by omega, by omega⟩, hO, hF.kd hb, (s_Na_bitsFrom (bit := n - 60) hO tb (by omega) (by rw [n60]; exact Int.lt_of_le_of_lt ab k2)).mono (fun x50 M49 k => ?_)⟩
    obtain ⟨g1, g2⟩ := k
    have g2' : x50 = nv M b / 2 ^ (n - 60) := g2
    rw [g1, g2']
    obtain ⟨⟨s1, s1'⟩, ⟨-, -, s2, s3, -, -, s4, -⟩, -, ⟨s5, s6, s7⟩, -⟩ := id hS
    refine ⟨⟨by omega, by omega⟩, hO, s1, (s_Sc_findFactors (e := d + 2) K0 hO s1 s4 s5 s6 kk (Int.le_of_lt b0) ab).mono (fun x54 M53 k => ?_)⟩
    obtain ⟨o53, F53, fa, fb, fc, fd, ⟨l0, l1, l2, l3⟩, ⟨j0, j1, j2, j3⟩, ⟨o1, o2, o3⟩, de2, pr2, x01⟩ := k
    have nl53 : NL L W (T4 z) (fun _ => False) False z M M53 := F53.nl o53 hF hS.t4 noI hS.z9
    have hN53 := hN.trans nl53
    have hF53 := nl53.nf
    have hS53 := nl53.sk hF hS
    obtain ⟨va, sa⟩ := F53.nv a
    obtain ⟨vb, sb'⟩ := F53.nv b
    obtain ⟨⟨m1, m1'⟩, ⟨-, -, m2, m3, -, -, m4, -⟩, -, ⟨m5, m6, m7⟩, -, ⟨-, -, m8, m9, -⟩, -⟩ := id hS53
    obtain ⟨w1, w2⟩ := ls.wd hw
    obtain ⟨-, -, w5, w7⟩ := id hw
    refine ⟨by rcases x01 with u | u <;> rw [u] <;> exact ⟨by decide, by decide⟩, o53, fun x0 => ⟨m1, hF53.kd ha, ?_⟩, fun x1 => ⟨m1, ?_⟩⟩
    · rw [m2, m3]
      refine (f_divide (d := d) o53 hF53 ha hb m8 m9 n1 n2 n3 n4 n5 (by omega) (by omega) (by omega) (by omega) (by omega)).mono (fun M62 k => ?_)
      obtain ⟨c1, e1', r1⟩ := k
      obtain ⟨-, -, -, b4, b5, -⟩ := c1.num hF53 hb (fun u => by rcases u with u | u | u <;> omega)
      rw [va, vb] at e1'
      rw [vb] at r1 b5
      have hF62 := c1.nf
      have r0 := hF62.nn0 ha
      have q1 : 1 ≤ nv M62 (z + 5) := by
        refine Classical.byContradiction (fun u => ?_)
        have := Int.mul_le_mul_of_nonneg_left (show nv M62 (z + 5) ≤ 0 by omega) (Int.le_of_lt b0)
        omega
      have er : nv M62 a = nv M a - nv M62 (z + 5) * nv M b := by rw [Int.mul_comm]; omega
      have hf := eu_half (Int.le_of_lt b0) ab ⟨r0, r1⟩ q1 er
      rw [show ((i : Int) + 1) = ((i + 1 : Nat) : Int) by first | rfl | omega]
      refine ⟨c1.ok, ih (i + 1) b a M62 (by omega) (hN53.trans ((c1.nl noI hS53.z9).mono hF53 (fun t ht => ?_) hS53.t4 (fun _ u => u) noI (fun u => u))) ls.swap ?_ (by omega) (by omega) (by omega) (by rw [b5]; exact pr_h2 pr hf)⟩
      · rcases ht with u | u | u
        · rw [u]; exact ls.t1.1
        · exact Or.inr (Or.inr (Or.inl u))
        · exact Or.inr (Or.inr (Or.inr u))
      · rw [b5, er]
        exact de.trans (DE.step _)
    · rw [m4]
      have vl := hF.vlt ha
      refine (f_combine (d := d) o53 hF53 ha hb n1 (by omega) (by omega) m5 m6 m7 l0 l1 l2 l3 j0 j1 j2 j3 (by rw [va, vb, sa]; omega) (by rw [va, vb, sa]; omega)).mono (fun M66 k => ?_)
      obtain ⟨c1, e1', e2'⟩ := k
      rw [va, vb] at e1' e2'
      have hF66 := c1.nf
      rw [← e1', ← e2'] at de2 pr2
      have up : 0 < nv M66 a := by
        refine Classical.byContradiction (fun u => ?_)
        have z1 : nv M66 a = 0 := by have := hF66.nn0 ha; omega
        have z2 : nv M66 b = 0 := by have := hF66.nn0 hb; omega
        have := ((de2 (nv M a + 1)).2 ⟨by rw [z1]; exact Int.dvd_zero _, by rw [z2]; exact Int.dvd_zero _⟩).1
        have := Int.le_of_dvd p this
        omega
      have s66 : sz M66 a ≤ sz M a := hF66.szm hF ha ha (by omega)
      rw [show ((i : Int) + 1) = ((i + 1 : Nat) : Int) by first | rfl | omega]
      refine ⟨c1.ok, ih (i + 1) a b M66 (by omega) (hN53.trans ((c1.nl noI hS53.z9).mono hF53 (fun t ht => ?_) hS53.t4 (fun _ u => u) noI (fun u => u))) ls (de.trans de2) (by omega) up (by omega) (pr_h2 pr (by rcases pr2 with u | u <;> first | exact absurd u x1 | exact u))⟩
      rcases ht with u | u
      · rw [u]; exact ls.t1.1
      · rw [u]; exact ls.t1.2
/-- a common divisor -/
theorem f_common {one other : Nat} (hO : mOk M) (hF : NF L W M) (hS : SK L M z) (h1 : one ∈ L) (h2 : other ∈ L) (t1 : ¬ T4 z one) (t2 : ¬ T4 z other) (pp : 0 < nv M one ∨ 0 < nv M other) (s1 : sz M one ≤ S) (s2 : sz M other ≤ S) (hS2 : S ≤ 16000) (hw : W4 W z S) : Cr G y_Sc_commonDivisor (d + 4) [vr z, vr one, vr other] M (gdQ L W z (nv M one) (nv M other) M) := by
  obtain ⟨⟨k1, k1'⟩, ⟨k2, k3, -⟩, -, -, -, ⟨k4, k5, -⟩, -⟩ := id hS
  obtain ⟨w1, w3, -⟩ := id hw
  refine k_Sc_commonDivisor hO ⟨k1, (f_order (d := d + 3) hO hF h1 h2).mono (fun x3 M2 k => ?_)⟩
  obtain ⟨e, ox⟩ := k
  rw [e, k2, k3]
  have xi : i32 x3 := by unfold orQ at ox; exact ⟨by omega, by omega⟩
  -- which of them is the larger one
  obtain ⟨big, sml, eb, es, hb, hs, tb, ts, pb, ps, lb, ls, le, de⟩ : ∃ big sml : Nat, (if (if (x3 < 0) then (0 : Int) else 1) = 0 then other else one) = big ∧ (if (if (x3 < 0) then (0 : Int) else 1) = 0 then one else other) = sml ∧ big ∈ L ∧ sml ∈ L ∧ ¬ T4 z big ∧ ¬ T4 z sml ∧ 0 < nv M big ∧ 0 ≤ nv M sml ∧ sz M big ≤ S ∧ sz M sml ≤ S ∧ nv M sml ≤ nv M big ∧ DE (nv M one) (nv M other) (nv M big) (nv M sml) := by
    unfold orQ at ox
    have n1 := hF.nn0 h1
    have n2 := hF.nn0 h2
    by_cases c : x3 < 0
    · rw [if_pos c, if_pos rfl, if_pos rfl]
      exact ⟨other, one, rfl, rfl, h2, h1, t2, t1, by omega, n1, s2, s1, by omega, DE.swap⟩
    · rw [if_neg c, if_neg (by decide), if_neg (by decide)]
      exact ⟨one, other, rfl, rfl, h1, h2, t1, t2, by omega, n2, s1, s2, by omega, DE.refl⟩
  refine ⟨xi, hO, fun v6 e6 v12 e12 => ⟨hF.kd k4, ?_⟩⟩
  rw [e6, eb] at e12
  rw [e12]
  refine (f_put1 (d := d + 2) hO hF k4 hb (fun u => tb (Or.inl u.symm)) (by omega)).mono (fun M16 k => ?_)
  obtain ⟨c1, v1⟩ := k
  have F1 := c1.nf
  refine ⟨c1.ok, fun v20 e20 => ⟨F1.kd k5, ?_⟩⟩
  rw [e6, es] at e20
  rw [e20]
  obtain ⟨-, -, -, n4, n5, -⟩ := c1.num hF hs (fun u => ts (Or.inl u))
  refine (f_put1 (d := d + 2) c1.ok F1 k5 hs (fun u => ts (Or.inr (Or.inl u.symm))) (by omega)).mono (fun M24 k => ?_)
  obtain ⟨c2, v2⟩ := k
  have F2 := c2.nf
  obtain ⟨-, -, -, a4, a5, -⟩ := c2.num F1 k4 (show z + 1 ≠ z + 3 by omega)
  rw [v1] at a5
  rw [n5] at v2
  have sb : sz M24 (z + 1) ≤ sz M big := F2.szm hF k4 hb (by omega)
  have nl1 := (c1.nl (I := fun _ => False) (r := False) noI hS.z9).mono (T' := T4 z) hF (fun t ht => Or.inl ht) hS.t4 (fun _ u => u) noI (fun u => u)
  have hS1 := nl1.sk hF hS
  have nl2 := (c2.nl (I := fun _ => False) (r := False) noI hS1.z9).mono (T' := T4 z) F1 (fun t ht => Or.inr (Or.inl ht)) hS.t4 (fun _ u => u) noI (fun u => u)
  refine ⟨c2.ok, s_gc58 (d := d) hF hS hw 1000000 0 (z + 1) (z + 3) M24 rfl (nl1.trans nl2) (Or.inl ⟨rfl, rfl⟩) (by rw [a5, v2]; exact de) (by omega) (by omega) (by omega) ?_⟩
  have u1 := hF.vlt hb
  have u2 := hF.vlt hs
  have u3 := p30m lb
  have u4 := p30m ls
  rw [a5, v2]
  have u5 : nv M big * nv M sml ≤ 2 ^ (30 * S) * nv M sml := Int.mul_le_mul_of_nonneg_right (by omega) ps
  have u6 : (2 : Int) ^ (30 * S) * nv M sml < 2 ^ (30 * S) * 2 ^ (30 * S) := Int.mul_lt_mul_of_pos_left (by omega) (p30p S)
  rw [← Int.pow_add] at u6
  have u7 := p2m (m := 30 * S + 30 * S) (k := 1000000) (by omega)
  exact Int.lt_of_le_of_lt u5 (Int.lt_of_lt_of_le u6 u7)
end NAS
end
section
/-! The Scales: fractions, other cells, an order of two fractions. -/
section NAT
variable {G : mG} {d a b c z n m w f f' S x : Nat} {M M' M1 M2 M3 : mM} {L : List Nat} {W : Nat → Nat} {T T' I I' : Nat → Prop} {r r' : Prop} {u0 v0 : Int}
/-- a cell that is neither a number nor a number's limbs -/
def Oc (L : List Nat) (M : mM) (x : Nat) : Prop := x < mZ M ∧ x ∉ L ∧ ∀ a, a ∈ L → mR M a 0 ≠ x
theorem NL.oc (h : NL L W T I r z M M') (hF : NF L W M) (hx : Oc L M x) : Oc L M' x := by
  refine ⟨Nat.lt_of_lt_of_le hx.1 h.2.2.1.1.1, hx.2.1, fun a ha u => ?_⟩
  by_cases c : T a
  · rcases h.2.2.2.1 a c with q | q
    · exact hx.2.2 a ha (by rw [← q]; exact u)
    · have := hx.1
      omega
  · rw [(h.num hF ha c).1] at u
    exact hx.2.2 a ha u
theorem NL.oth (h : NL L W T I r z M M') (hx : Oc L M x) (hz : x ≠ z) : mK M' x = mK M x ∧ mN M' x = mN M x ∧ mR M' x = mR M x ∧ (¬ I x → mI M' x = mI M x) := by
  obtain ⟨-, ⟨h2, hI, -⟩, h3, -, -⟩ := h
  obtain ⟨a1, a2, a3, a4, a5⟩ := h3.2 x hx.1
  refine ⟨a1, a2, a4 (fun u => u.elim (fun u => hx.2.1 (h2 x u)) (fun u => hz u.1)), fun ni => a5 ?_⟩
  rintro ((u | ⟨t, ht, u⟩) | u)
  · exact hx.2.1 (h2 x u)
  · exact hx.2.2 t (h2 t ht) u.symm
  · exact ni u
theorem NC.v (h : NC L W (fun x => x = a) M M') (hF : NF L W M) (hb : b ∈ L) (ne : b ≠ a) : nv M' b = nv M b := (h.num hF hb ne).2.2.2.2.1
/-- a fraction whose numbers are of the family -/
def FrL (L : List Nat) (M : mM) (f : Nat) : Prop := FrP M f ∧ f + 1 ∈ L ∧ f + 3 ∈ L
theorem NL.frl (h : NL L W T I r z M M') (hF : NF L W M) (hf : FrL L M f) : FrL L M' f := ⟨(h.frp hF hf.1).1, hf.2⟩
/-- a small factor is written -/
theorem nl_times {v : Int} (hO : mOk M) (hF : NF L W M) (hf : FrL L M f) (hz : z < mZ M ∧ mK M z = 9) (hv : i32 v) (e : M' = mUI M f 2 v) (hT : ∀ t, T t → t ∈ L) (hI : I f) (hI' : ∀ x, I x → x < mZ M ∧ mK M x = 11) : NL L W T I r z M M' ∧ mI M' f 2 = v ∧ ∀ a, a ∈ L → nv M' a = nv M a := by
  have F : FI (fun x => x = f) M M' := by rw [e]; exact FI.ui rfl
  have o : mOk M' := by rw [e]; exact mOk_UI hO hv
  have ne : ∀ a, a ∈ L → a ≠ f ∧ mR M a 0 ≠ f := fun a ha => hF.nI hf.1.1 ha
  have cc : ∀ b, cp M' b = cp M b := fun b => by unfold cp; rw [F.2.2.1, F.2.1]
  have nt' : ∀ a, a ∈ L → Nt M' a (mR M a 0) (cp M a) (sz M a) := fun a ha => (hF.nt ha).fi F (ne a ha).1 (ne a ha).2
  refine ⟨⟨⟨o, hF.1, fun a ha => ⟨(nt' a ha).nn, by rw [cc]; exact (hF.2.1 a ha).2.1, (hF.2.1 a ha).2.2⟩, fun a b ha hb u => hF.2.2 a b ha hb (by rw [← F.2.2.1]; exact u)⟩, ⟨hT, hI', hz⟩, ((F.fa (R := fun _ => False)).fd (D := fun x => x = z + 13)).mono (fun x _ u => Or.inr (by rw [u]; exact hI)) (fun _ _ u => u.elim) (fun _ _ u => u), fun t _ => Or.inl (by rw [F.2.2.1]), ?_⟩, by rw [mI_ui f 2 e, if_pos ⟨rfl, rfl⟩], fun a ha => ?_⟩
  · unfold RmN
    rw [show cp M' = cp M from funext cc, F.2.2.2.2.1, F.2.2.2.2.2.1]
    exact ⟨Nat.le_refl _, Nat.le_refl _⟩
  · rw [(nt' a ha).nv]
    unfold nv
    rw [F.2.2.2.2.2.2 _ (ne a ha).2]
/-- a fraction's numbers -/
def T2 (f x : Nat) : Prop := x = f + 1 ∨ x = f + 3
theorem FrL.t2 (h : FrL L M f) : ∀ t, T2 f t → t ∈ L := fun t u => u.elim (fun u => by rw [u]; exact h.2.1) (fun u => by rw [u]; exact h.2.2)
theorem f_Fr_put0 {v : Int} (hv : 0 ≤ v ∧ v < 1073741824) (hO : mOk M) (hF : NF L W M) (hf : FrL L M f) (hz : z < mZ M ∧ mK M z = 9) : Cv G y_Fr_put0 (d + 1) [vr f, vi v] M (fun M' => NL L W (T2 f) (fun x => x = f) False z M M' ∧ nv M' (f + 1) = v ∧ nv M' (f + 3) = 1 ∧ mI M' f 2 = 1) := by
  have hI : ∀ x, (fun x => x = f) x → x < mZ M ∧ mK M x = 11 := fun x u => by rw [u]; exact ⟨hf.1.2.2, hf.1.1⟩
  obtain ⟨⟨k, ⟨r0, r1⟩, l⟩, m1, m3⟩ := id hf
  refine k_Fr_put0 hO (l30i hv) ?_
  rw [r0]
  refine ⟨k, hF.kd m1, (f_put0 hv hO hF m1).mono (fun M3 k3 => ?_)⟩
  obtain ⟨c1, v1⟩ := k3
  have F1 := c1.nf
  have n1 : NL L W (T2 f) (fun x => x = f) False z M M3 := (c1.nl (I := fun x => x = f) (r := False) hI hz).mono hF (fun t ht => Or.inl ht) hf.t2 (fun _ u => u) hI (fun u => u)
  have hf1 := n1.frl hF hf
  obtain ⟨⟨k1, ⟨-, r1'⟩, l1⟩, -⟩ := id hf1
  rw [r1']
  refine ⟨c1.ok, k1, F1.kd m3, (f_put0 ⟨by decide, by decide⟩ c1.ok F1 m3).mono (fun M8 k8 => ?_)⟩
  obtain ⟨c2, v2⟩ := k8
  have F2 := c2.nf
  have hz1 : z < mZ M3 ∧ mK M3 z = 9 := ⟨Nat.lt_of_lt_of_le hz.1 n1.2.2.1.1.1, by rw [n1.kind hz.1]; exact hz.2⟩
  have hI1 : ∀ x, (fun x => x = f) x → x < mZ M3 ∧ mK M3 x = 11 := fun x u => by rw [u]; exact ⟨l1, k1⟩
  have n2 : NL L W (T2 f) (fun x => x = f) False z M3 M8 := (c2.nl (I := fun x => x = f) (r := False) hI1 hz1).mono F1 (fun t ht => Or.inr ht) hf.t2 (fun _ u => u) hI1 (fun u => u)
  have hf2 := n2.frl F1 hf1
  have n12 := n1.trans n2
  refine ⟨c2.ok, hf2.1.1, fun M12 e12 => ?_⟩
  obtain ⟨n3, t3, w3⟩ := nl_times (T := T2 f) (I := fun x => x = f) (r := False) (z := z) c2.ok F2 hf2 ⟨Nat.lt_of_lt_of_le hz.1 n12.2.2.1.1.1, by rw [n12.kind hz.1]; exact hz.2⟩ ⟨by decide, by decide⟩ e12 hf.t2 rfl (fun x u => by rw [u]; exact ⟨hf2.1.2.2, hf2.1.1⟩)
  exact ⟨n12.trans n3, by rw [w3 _ m1, c2.v F1 m1 (by omega), v1], by rw [w3 _ m3, v2], t3⟩
theorem f_Fr_put1 (hO : mOk M) (hF : NF L W M) (hf : FrL L M f) (hg : FrL L M f') (ff : f ≠ f') (n1 : f + 1 ≠ f' + 3) (n2 : f + 3 ≠ f' + 1) (hz : z < mZ M ∧ mK M z = 9) (w1 : sz M (f' + 1) ≤ W (f + 1)) (w3 : sz M (f' + 3) ≤ W (f + 3)) : Cv G y_Fr_put1 (d + 2) [vr f, vr f'] M (fun M' => NL L W (T2 f) (fun x => x = f) False z M M' ∧ nv M' (f + 1) = nv M (f' + 1) ∧ nv M' (f + 3) = nv M (f' + 3) ∧ mI M' f 2 = mI M f' 2) := by
  have hI : ∀ x, (fun x => x = f) x → x < mZ M ∧ mK M x = 11 := fun x u => by rw [u]; exact ⟨hf.1.2.2, hf.1.1⟩
  obtain ⟨⟨k, ⟨r0, r1⟩, l⟩, m1, m3⟩ := id hf
  obtain ⟨⟨k', ⟨r0', r1'⟩, l'⟩, m1', m3'⟩ := id hg
  refine k_Fr_put1 hO ?_
  rw [r0, r0']
  refine ⟨k, k', hF.kd m1, (f_put1 hO hF m1 m1' (by omega) w1).mono (fun M3 k3 => ?_)⟩
  obtain ⟨c1, v1⟩ := k3
  have F1 := c1.nf
  have n1' : NL L W (T2 f) (fun x => x = f) False z M M3 := (c1.nl (I := fun x => x = f) (r := False) hI hz).mono hF (fun t ht => Or.inl ht) hf.t2 (fun _ u => u) hI (fun u => u)
  have hf1 := n1'.frl hF hf
  have hg1 := n1'.frl hF hg
  rw [hf1.1.2.1.2, hg1.1.2.1.2]
  have s3 := (c1.num hF m3' (show ¬ (f' + 3 = f + 1) by first | rfl | omega)).2.2.2.1
  refine ⟨c1.ok, hf1.1.1, hg1.1.1, F1.kd m3, (f_put1 c1.ok F1 m3 m3' (by omega) (by omega)).mono (fun M8 k8 => ?_)⟩
  obtain ⟨c2, v2⟩ := k8
  have F2 := c2.nf
  have hz1 : z < mZ M3 ∧ mK M3 z = 9 := ⟨Nat.lt_of_lt_of_le hz.1 n1'.2.2.1.1.1, by rw [n1'.kind hz.1]; exact hz.2⟩
  have hI1 : ∀ x, (fun x => x = f) x → x < mZ M3 ∧ mK M3 x = 11 := fun x u => by rw [u]; exact ⟨hf1.1.2.2, hf1.1.1⟩
  have n2' : NL L W (T2 f) (fun x => x = f) False z M3 M8 := (c2.nl (I := fun x => x = f) (r := False) hI1 hz1).mono F1 (fun t ht => Or.inr ht) hf.t2 (fun _ u => u) hI1 (fun u => u)
  have hf2 := n2'.frl F1 hf1
  have hg2 := n2'.frl F1 hg1
  have n12 := n1'.trans n2'
  have t2 : mI M8 f' 2 = mI M f' 2 := by rw [(n12.frp hF hg.1).2 (fun u => ff u.symm)]
  rw [t2]
  refine ⟨c2.ok, hg2.1.1, hf2.1.1, fun M12 e12 => ?_⟩
  obtain ⟨n3, t3, w3'⟩ := nl_times (T := T2 f) (I := fun x => x = f) (r := False) (z := z) c2.ok F2 hf2 ⟨Nat.lt_of_lt_of_le hz.1 n12.2.2.1.1.1, by rw [n12.kind hz.1]; exact hz.2⟩ (hO _ _).1 e12 hf.t2 rfl (fun x u => by rw [u]; exact ⟨hf2.1.2.2, hf2.1.1⟩)
  exact ⟨n12.trans n3, by rw [w3' _ m1, c2.v F1 m1 (by omega), v1], by rw [w3' _ m3, v2, c1.v hF m3' (by omega)], t3⟩
end NAT
end
section
/-! The Scales: a command is weighed. -/
section NAU
variable {G : mG} {d a b c z n m w f S x B u : Nat} {M M' M1 M2 M3 : mM} {L : List Nat} {W : Nat → Nat} {T T' I I' : Nat → Prop} {r r' : Prop} {sh : Int}
/-- the numbers that weighing changes -/
def Twg (z w x : Nat) : Prop := T4 z x ∨ x = z + 11 ∨ x = z + 14 ∨ x = z + 16 ∨ x = w + 1 ∨ x = w + 3
/-- all is in its place -/
def Wsc (L : List Nat) (W : Nat → Nat) (z w f : Nat) (M : mM) : Prop := mOk M ∧ NF L W M ∧ SK L M z ∧ FrL L M w ∧ FrL L M f
/-- the worth is not the Scales' own scratch, a row is neither -/
def Dwg (z w f : Nat) : Prop := (¬ T4 z (w + 1) ∧ ¬ T4 z (w + 3) ∧ w + 1 ≠ z + 11 ∧ w + 1 ≠ z + 14 ∧ w + 1 ≠ z + 16 ∧ w + 3 ≠ z + 11 ∧ w + 3 ≠ z + 14 ∧ w + 3 ≠ z + 16) ∧ (¬ Twg z w (f + 1) ∧ ¬ Twg z w (f + 3) ∧ f ≠ w)
theorem Wsc.tw (h : Wsc L W z w f M) : ∀ t, Twg z w t → t ∈ L := by
  intro t ht
  obtain ⟨-, -, hS, hw, -⟩ := h
  have k := hS.2.2.2.2.2.1
  rcases ht with u | u | u | u | u | u
  · exact hS.t4 t u
  · rw [u]; exact k.2.2.2.2.2.1
  · rw [u]; exact k.2.2.2.2.2.2.1
  · rw [u]; exact k.2.2.2.2.2.2.2
  · rw [u]; exact hw.2.1
  · rw [u]; exact hw.2.2
theorem Wsc.iw (h : Wsc L W z w f M) : ∀ x, (fun x => x = w) x → x < mZ M ∧ mK M x = 11 := fun x u => by
  rw [u]
  exact ⟨h.2.2.2.1.1.2.2, h.2.2.2.1.1.1⟩
theorem Wsc.nl (h : Wsc L W z w f M) (k : NL L W (Twg z w) (fun _ => False) False z M M') : Wsc L W z w f M' := by
  obtain ⟨h1, h2, h3, h4, h5⟩ := h
  exact ⟨k.ok, k.nf, k.sk h2 h3, k.frl h2 h4, k.frl h2 h5⟩
theorem Wsc.st (h : Wsc L W z w f M) (ha : Twg z w a) (c : NC L W (fun x => x = a) M M') : NL L W (Twg z w) (fun _ => False) False z M M' ∧ Wsc L W z w f M' := by
  have n : NL L W (Twg z w) (fun _ => False) False z M M' := (c.nl (I := fun _ => False) (r := False) noI h.2.2.1.z9).mono h.2.1 (fun t ht => by rw [ht]; exact ha) h.tw (fun _ u => u) noI (fun u => u)
  exact ⟨n, h.nl n⟩
theorem Wsc.st3 (h : Wsc L W z w f M) (ha : Twg z w a ∧ Twg z w b ∧ Twg z w c) (k : NC L W (fun x => x = a ∨ x = b ∨ x = c) M M') : NL L W (Twg z w) (fun _ => False) False z M M' ∧ Wsc L W z w f M' := by
  have n : NL L W (Twg z w) (fun _ => False) False z M M' := (k.nl (I := fun _ => False) (r := False) noI h.2.2.1.z9).mono h.2.1 (fun t ht => by
    rcases ht with u | u | u
    · rw [u]; exact ha.1
    · rw [u]; exact ha.2.1
    · rw [u]; exact ha.2.2) h.tw (fun _ u => u) noI (fun u => u)
  exact ⟨n, h.nl n⟩
/-- references and kinds -/
theorem Wsc.pl (h : Wsc L W z w f M) : (mK M z = 9 ∧ mK M w = 11 ∧ mK M f = 11) ∧ (mR M z 2 = z + 5 ∧ mR M z 3 = z + 7 ∧ mR M z 5 = z + 11 ∧ mR M z 7 = z + 14 ∧ mR M z 8 = z + 16) ∧ (mR M w 0 = w + 1 ∧ mR M w 1 = w + 3) ∧ (mR M f 0 = f + 1 ∧ mR M f 1 = f + 3) ∧ (z + 5 ∈ L ∧ z + 7 ∈ L ∧ z + 11 ∈ L ∧ z + 14 ∈ L ∧ z + 16 ∈ L ∧ w + 1 ∈ L ∧ w + 3 ∈ L ∧ f + 1 ∈ L ∧ f + 3 ∈ L) := by
  obtain ⟨-, -, ⟨k1, ⟨-, -, k2, k3, -, k5, -, k7, k8⟩, -, -, -, ⟨-, -, p1, p2, -, p3, p4, p5⟩, -⟩, ⟨⟨q1, q2, -⟩, q3, q4⟩, ⟨⟨r1, r2, -⟩, r3, r4⟩⟩ := h
  exact ⟨⟨k1.1, q1, r1⟩, ⟨k2, k3, k5, k7, k8⟩, q2, r2, p1, p2, p3, p4, p5, q3, q4, r3, r4⟩
theorem dv_ex {U r Q e : Int} (hr : 0 < r) (hd : r ∣ U) (h : U = r * Q + e) (he : 0 ≤ e ∧ e < r) : U = r * Q := by
  have h1 : r ∣ e := by
    have := Int.dvd_sub hd (Int.dvd_mul_right r Q)
    rw [show U - r * Q = e by first | rfl | omega] at this
    exact this
  have h2 : e = 0 := Classical.byContradiction (fun u => by
    have := Int.le_of_dvd (by omega) h1
    omega)
  omega
theorem qb {U r Q : Int} {u : Nat} (hr : 0 < r) (hQ : 0 ≤ Q) (h : U = r * Q) (hU : U < 2 ^ (30 * u)) : Q < 2 ^ (30 * u) := by
  have := Int.mul_le_mul_of_nonneg_right (show 1 ≤ r by omega) hQ
  omega
theorem pb {x y : Int} {p q : Nat} (hx : 0 ≤ x ∧ x < 2 ^ (30 * p)) (hy : 0 ≤ y ∧ y < 2 ^ (30 * q)) : x * y < 2 ^ (30 * (p + q)) := by
  have h1 : x * y ≤ 2 ^ (30 * p) * y := Int.mul_le_mul_of_nonneg_right (by omega) hy.1
  have h2 : (2 : Int) ^ (30 * p) * y < 2 ^ (30 * p) * 2 ^ (30 * q) := Int.mul_lt_mul_of_pos_left hy.2 (p30p p)
  rw [p30a]
  omega
theorem nez {z i j : Nat} (h : i ≠ j) : z + i ≠ z + j := by omega
theorem Dwg.nx (h : Dwg z w f) : (¬ (w + 1 = z + 14 ∨ w + 1 = z + 5 ∨ w + 1 = z + 7) ∧ ¬ (w + 1 = z + 16 ∨ w + 1 = z + 5 ∨ w + 1 = z + 7)) ∧ (¬ (w + 3 = z + 14 ∨ w + 3 = z + 5 ∨ w + 3 = z + 7) ∧ ¬ (w + 3 = z + 16 ∨ w + 3 = z + 5 ∨ w + 3 = z + 7)) ∧ (¬ (z + 14 = z + 16 ∨ z + 14 = z + 5 ∨ z + 14 = z + 7)) := by
  obtain ⟨⟨h1, h2, -, h4, h5, -, h7, h8⟩, -⟩ := h
  unfold T4 at h1 h2
  exact ⟨⟨by omega, by omega⟩, ⟨by omega, by omega⟩, by omega⟩
theorem r_n {r : Nat} (er : r = z + 1 ∨ r = z + 3) : (r ≠ z + 5 ∧ r ≠ z + 7 ∧ r ≠ z + 14 ∧ r ≠ z + 16) ∧ ¬ (r = z + 14 ∨ r = z + 5 ∨ r = z + 7) ∧ ¬ (r = z + 16 ∨ r = z + 5 ∨ r = z + 7) := by rcases er with e | e <;> subst e <;> omega
/-- room -/
theorem wg_in (hW : ∀ x, Twg z w x → B ≤ W x) (b1 : a + S + 3 ≤ B) (b2 : u + S + 3 ≤ B) (hB : B ≤ 16000) : (u + S ≤ 16000 ∧ W4 W z (u + S)) ∧ (u ≤ W (z + 14) ∧ u + 2 ≤ W (z + 14) ∧ u + 1 ≤ W (z + 5) ∧ u + 1 ≤ W (z + 7)) ∧ (S ≤ W (z + 16) ∧ S + 2 ≤ W (z + 16) ∧ S + 1 ≤ W (z + 5)) ∧ (a + S ≤ W (z + 11) ∧ a + S ≤ W (w + 1) ∧ S + u ≤ W (z + 11) ∧ a + S + 1 ≤ W (w + 1) ∧ S + u + 1 ≤ W (w + 1) ∧ u + S ≤ W (z + 11) ∧ u + S ≤ W (w + 3)) := by
  have W5 := hW (z + 5) (Or.inl (Or.inr (Or.inr (Or.inl rfl))))
  have W7 := hW (z + 7) (Or.inl (Or.inr (Or.inr (Or.inr rfl))))
  have W11 := hW (z + 11) (Or.inr (Or.inl rfl))
  have W14 := hW (z + 14) (Or.inr (Or.inr (Or.inl rfl)))
  have W16 := hW (z + 16) (Or.inr (Or.inr (Or.inr (Or.inl rfl))))
  have Ww1 := hW (w + 1) (Or.inr (Or.inr (Or.inr (Or.inr (Or.inl rfl)))))
  have Ww3 := hW (w + 3) (Or.inr (Or.inr (Or.inr (Or.inr (Or.inr rfl)))))
  have W1 := hW (z + 1) (Or.inl (Or.inl rfl))
  have W3 := hW (z + 3) (Or.inl (Or.inr (Or.inl rfl)))
  unfold W4
  omega
/-- the sum and the product, at the end -/
theorem s_wgD {Q : mM → Prop} {Q1 Q2 A U : Int} (h : Wsc L W z w f M) (dw : Dwg z w f) (hsh : 0 ≤ sh ∧ sh < 1073741824) (hA : A * Q2 < 2 ^ (30 * (a + S))) (U0 : 0 ≤ U) (hU : U < 2 ^ (30 * u)) (X0 : 0 ≤ nv M (f + 1)) (hFa : nv M (f + 1) < 2 ^ (30 * S)) (Q1n : 0 ≤ Q1) (Q1b : Q1 < 2 ^ (30 * u)) (Q2n : 0 ≤ Q2) (Q2b : Q2 < 2 ^ (30 * S)) (A9 : nv M (w + 1) = A * Q2) (U9 : nv M (w + 3) = U) (P9 : nv M (z + 14) = Q1) (Q9 : nv M (z + 16) = Q2) (hW : ∀ x, Twg z w x → B ≤ W x) (b1 : a + S + 3 ≤ B) (b2 : u + S + 3 ≤ B) (hB : B ≤ 16000)
    (hQ : ∀ M', NL L W (Twg z w) (fun _ => False) False z M M' → nv M' (w + 1) = A * Q2 + sh * (nv M (f + 1) * Q1) → nv M' (w + 3) = U * Q2 → Q M') : mK M z = 9 ∧ mK M f = 11 ∧ mK M (mR M z 5) = 10 ∧ Cv G y_Na_putProduct (d + 4) [vr (mR M z 5), vr (mR M f 0), vr (mR M z 7)] M (fun M103 => mOk M103 ∧ (mK M103 w = 11 ∧ mK M103 z = 9 ∧ mK M103 (mR M103 w 0) = 10 ∧ Cv G y_Na_add (d + 4) [vr (mR M103 w 0), vr (mR M103 z 5), vi sh] M103 (fun M109 => mOk M109 ∧ (mK M109 z = 9 ∧ mK M109 w = 11 ∧ mK M109 (mR M109 z 5) = 10 ∧ Cv G y_Na_putProduct (d + 4) [vr (mR M109 z 5), vr (mR M109 w 1), vr (mR M109 z 8)] M109 (fun M115 => mOk M115 ∧ (mK M115 w = 11 ∧ mK M115 z = 9 ∧ mK M115 (mR M115 w 1) = 10 ∧ Cv G y_Na_put1 (d + 4) [vr (mR M115 w 1), vr (mR M115 z 5)] M115 (fun M121 => mOk M121 ∧ (Q M121)))))))) := by
  obtain ⟨⟨d1, d2, d3, d4, d5, d6, d7, d8⟩, d9, d10, d11⟩ := id dw
  obtain ⟨hO, hF, hS, hw, hf⟩ := id h
  obtain ⟨⟨k1, k2, k3⟩, ⟨r2, r3, r5, r7, r8⟩, ⟨w0, w1⟩, ⟨f0, f1⟩, m5, m7, m11, m14, m16, mw1, mw3, mf1, mf3⟩ := h.pl
  have t5 : Twg z w (z + 5) := Or.inl (Or.inr (Or.inr (Or.inl rfl)))
  have t7 : Twg z w (z + 7) := Or.inl (Or.inr (Or.inr (Or.inr rfl)))
  have t11 : Twg z w (z + 11) := Or.inr (Or.inl rfl)
  have t14 : Twg z w (z + 14) := Or.inr (Or.inr (Or.inl rfl))
  have t16 : Twg z w (z + 16) := Or.inr (Or.inr (Or.inr (Or.inl rfl)))
  have tw1 : Twg z w (w + 1) := Or.inr (Or.inr (Or.inr (Or.inr (Or.inl rfl))))
  have tw3 : Twg z w (w + 3) := Or.inr (Or.inr (Or.inr (Or.inr (Or.inr rfl))))
  have nf1 : ∀ x, Twg z w x → f + 1 ≠ x := fun x hx e => d9 (by rw [e]; exact hx)
  have nf3 : ∀ x, Twg z w x → f + 3 ≠ x := fun x hx e => d10 (by rw [e]; exact hx)
  obtain ⟨⟨i16, i4⟩, ⟨i14, i142, i5, i7⟩, ⟨j16, j162, j5⟩, ⟨i11, iw1, j11, iw11, jw11, l11, iw3⟩⟩ := wg_in (a := a) hW b1 b2 hB
  obtain ⟨⟨x1, x2⟩, ⟨x3, x4⟩, x5⟩ := dw.nx
  clear hW b1 b2 hB
  have sfa := hF.szv mf1 hFa
  have s149 : sz M (z + 14) ≤ u := hF.szv m14 (by rw [P9]; exact Q1b)
  have w13 : w + 3 ≠ w + 1 := nez (by decide)
  rw [r5, f0, r7]
  refine ⟨k1, k3, hF.kd m11, (f_putProduct (d := d + 1) hO hF m11 mf1 m14 (fun e => nf1 _ t11 e.symm) (nez (by decide)) (Nat.le_trans (Nat.add_le_add sfa s149) j11)).mono (fun M103 g => ?_)⟩
  obtain ⟨c10, v10⟩ := g
  obtain ⟨N10, H10⟩ := h.st t11 c10
  have F10 := H10.2.1
  obtain ⟨⟨k1, k2, k3⟩, ⟨r2, r3, r5, r7, r8⟩, ⟨w0, w1⟩, ⟨f0, f1⟩, -⟩ := H10.pl
  rw [P9] at v10
  have A10 := (c10.v hF mw1 d3).trans A9
  have Q10 := (c10.v hF m16 (nez (by decide))).trans Q9
  have U10 := (c10.v hF mw3 d6).trans U9
  have b10 := pb (x := nv M (f + 1)) (y := Q1) ⟨X0, hFa⟩ ⟨Q1n, Q1b⟩
  have s11' : sz M103 (z + 11) ≤ S + u := F10.szv m11 (by rw [v10]; exact b10)
  have sA10 : sz M103 (w + 1) ≤ a + S := F10.szv mw1 (by rw [A10]; exact hA)
  rw [w0, r5]
  refine ⟨H10.1, k2, k1, F10.kd mw1, (f_add (d := d + 1) hsh H10.1 F10 mw1 m11 d3 (Nat.le_trans (Nat.add_le_add_right sA10 1) iw11) (Nat.le_trans (Nat.add_le_add_right s11' 1) jw11)).mono (fun M109 g => ?_)⟩
  obtain ⟨c11, v11⟩ := g
  obtain ⟨n11, H11⟩ := H10.st tw1 c11
  have N11 := N10.trans n11
  have F11 := H11.2.1
  obtain ⟨⟨k1, k2, k3⟩, ⟨r2, r3, r5, r7, r8⟩, ⟨w0, w1⟩, ⟨f0, f1⟩, -⟩ := H11.pl
  rw [A10, v10] at v11
  have Q11 := (c11.v F10 m16 (fun e => d5 e.symm)).trans Q10
  have U11 := (c11.v F10 mw3 w13).trans U10
  have sU11 : sz M109 (w + 3) ≤ u := F11.szv mw3 (by rw [U11]; exact hU)
  have s1611 : sz M109 (z + 16) ≤ S := F11.szv m16 (by rw [Q11]; exact Q2b)
  rw [r5, w1, r8]
  refine ⟨H11.1, k1, k2, F11.kd m11, (f_putProduct (d := d + 1) H11.1 F11 m11 mw3 m16 (fun e => d6 e.symm) (nez (by decide)) (Nat.le_trans (Nat.add_le_add sU11 s1611) l11)).mono (fun M115 g => ?_)⟩
  obtain ⟨c12, v12⟩ := g
  obtain ⟨n12, H12⟩ := H11.st t11 c12
  have N12 := N11.trans n12
  have F12 := H12.2.1
  obtain ⟨⟨k1, k2, k3⟩, ⟨r2, r3, r5, r7, r8⟩, ⟨w0, w1⟩, ⟨f0, f1⟩, -⟩ := H12.pl
  rw [U11, Q11] at v12
  have A12 := (c12.v F11 mw1 d3).trans v11
  have b12 := pb (x := U) (y := Q2) ⟨U0, hU⟩ ⟨Q2n, Q2b⟩
  have s1112 : sz M115 (z + 11) ≤ u + S := F12.szv m11 (by rw [v12]; exact b12)
  rw [w1, r5]
  refine ⟨H12.1, k2, k1, F12.kd mw3, (f_put1 (d := d + 3) H12.1 F12 mw3 m11 d6 (Nat.le_trans s1112 iw3)).mono (fun M121 g => ?_)⟩
  obtain ⟨c13, v13⟩ := g
  obtain ⟨n13, H13⟩ := H12.st tw3 c13
  exact ⟨H13.1, hQ M121 (N12.trans n13) ((c13.v F12 mw1 (nez (by decide))).trans A12) (v13.trans v12)⟩
/-- the sum, from the quotients on -/
theorem s_wgC {Q : mM → Prop} {Q1 Q2 A U : Int} (h : Wsc L W z w f M) (dw : Dwg z w f) (hsh : 0 ≤ sh ∧ sh < 1073741824) (A0 : 0 ≤ A) (hA : A < 2 ^ (30 * a)) (U0 : 0 ≤ U) (hU : U < 2 ^ (30 * u)) (X0 : 0 ≤ nv M (f + 1)) (hFa : nv M (f + 1) < 2 ^ (30 * S)) (Q1n : 0 ≤ Q1) (Q1b : Q1 < 2 ^ (30 * u)) (Q2n : 0 ≤ Q2) (Q2b : Q2 < 2 ^ (30 * S)) (A7 : nv M (w + 1) = A) (U7 : nv M (w + 3) = U) (P7 : nv M (z + 14) = Q1) (v7 : nv M (z + 16) = Q2) (hW : ∀ x, Twg z w x → B ≤ W x) (b1 : a + S + 3 ≤ B) (b2 : u + S + 3 ≤ B) (hB : B ≤ 16000)
    (hQ : ∀ M', NL L W (Twg z w) (fun _ => False) False z M M' → nv M' (w + 1) = A * Q2 + sh * (nv M (f + 1) * Q1) → nv M' (w + 3) = U * Q2 → Q M') : mK M z = 9 ∧ mK M w = 11 ∧ mK M (mR M z 5) = 10 ∧ Cv G y_Na_putProduct (d + 4) [vr (mR M z 5), vr (mR M w 0), vr (mR M z 8)] M (fun M91 => mOk M91 ∧ (mK M91 w = 11 ∧ mK M91 z = 9 ∧ mK M91 (mR M91 w 0) = 10 ∧ Cv G y_Na_put1 (d + 4) [vr (mR M91 w 0), vr (mR M91 z 5)] M91 (fun M97 => mOk M97 ∧ (mK M97 z = 9 ∧ mK M97 f = 11 ∧ mK M97 (mR M97 z 5) = 10 ∧ Cv G y_Na_putProduct (d + 4) [vr (mR M97 z 5), vr (mR M97 f 0), vr (mR M97 z 7)] M97 (fun M103 => mOk M103 ∧ (mK M103 w = 11 ∧ mK M103 z = 9 ∧ mK M103 (mR M103 w 0) = 10 ∧ Cv G y_Na_add (d + 4) [vr (mR M103 w 0), vr (mR M103 z 5), vi sh] M103 (fun M109 => mOk M109 ∧ (mK M109 z = 9 ∧ mK M109 w = 11 ∧ mK M109 (mR M109 z 5) = 10 ∧ Cv G y_Na_putProduct (d + 4) [vr (mR M109 z 5), vr (mR M109 w 1), vr (mR M109 z 8)] M109 (fun M115 => mOk M115 ∧ (mK M115 w = 11 ∧ mK M115 z = 9 ∧ mK M115 (mR M115 w 1) = 10 ∧ Cv G y_Na_put1 (d + 4) [vr (mR M115 w 1), vr (mR M115 z 5)] M115 (fun M121 => mOk M121 ∧ (Q M121)))))))))))) := by
  have hW0 := hW
  obtain ⟨⟨d1, d2, d3, d4, d5, d6, d7, d8⟩, d9, d10, d11⟩ := id dw
  obtain ⟨hO, hF, hS, hw, hf⟩ := id h
  obtain ⟨⟨k1, k2, k3⟩, ⟨r2, r3, r5, r7, r8⟩, ⟨w0, w1⟩, ⟨f0, f1⟩, m5, m7, m11, m14, m16, mw1, mw3, mf1, mf3⟩ := h.pl
  have t5 : Twg z w (z + 5) := Or.inl (Or.inr (Or.inr (Or.inl rfl)))
  have t7 : Twg z w (z + 7) := Or.inl (Or.inr (Or.inr (Or.inr rfl)))
  have t11 : Twg z w (z + 11) := Or.inr (Or.inl rfl)
  have t14 : Twg z w (z + 14) := Or.inr (Or.inr (Or.inl rfl))
  have t16 : Twg z w (z + 16) := Or.inr (Or.inr (Or.inr (Or.inl rfl)))
  have tw1 : Twg z w (w + 1) := Or.inr (Or.inr (Or.inr (Or.inr (Or.inl rfl))))
  have tw3 : Twg z w (w + 3) := Or.inr (Or.inr (Or.inr (Or.inr (Or.inr rfl))))
  have nf1 : ∀ x, Twg z w x → f + 1 ≠ x := fun x hx e => d9 (by rw [e]; exact hx)
  have nf3 : ∀ x, Twg z w x → f + 3 ≠ x := fun x hx e => d10 (by rw [e]; exact hx)
  obtain ⟨⟨i16, i4⟩, ⟨i14, i142, i5, i7⟩, ⟨j16, j162, j5⟩, ⟨i11, iw1, j11, iw11, jw11, l11, iw3⟩⟩ := wg_in (a := a) hW b1 b2 hB
  obtain ⟨⟨x1, x2⟩, ⟨x3, x4⟩, x5⟩ := dw.nx
  clear hW
  have sA7 : sz M (w + 1) ≤ a := hF.szv mw1 (by rw [A7]; exact hA)
  have s167 : sz M (z + 16) ≤ S := hF.szv m16 (by rw [v7]; exact Q2b)
  rw [r5, w0, r8]
  refine ⟨k1, k2, hF.kd m11, (f_putProduct (d := d + 1) hO hF m11 mw1 m16 (fun e => d3 e.symm) (nez (by decide)) (Nat.le_trans (Nat.add_le_add sA7 s167) i11)).mono (fun M91 g => ?_)⟩
  obtain ⟨c8, v8⟩ := g
  obtain ⟨N8, H8⟩ := h.st t11 c8
  have F8 := H8.2.1
  obtain ⟨⟨k1, k2, k3⟩, ⟨r2, r3, r5, r7, r8⟩, ⟨w0, w1⟩, ⟨f0, f1⟩, -⟩ := H8.pl
  rw [A7, v7] at v8
  have P8 := (c8.v hF m14 (nez (by decide))).trans P7
  have Q8 := (c8.v hF m16 (nez (by decide))).trans v7
  have U8 := (c8.v hF mw3 d6).trans U7
  have b8 := pb (x := A) (y := Q2) ⟨A0, hA⟩ ⟨Q2n, Q2b⟩
  have s11 : sz M91 (z + 11) ≤ a + S := F8.szv m11 (by rw [v8]; exact b8)
  rw [w0, r5]
  refine ⟨H8.1, k2, k1, F8.kd mw1, (f_put1 (d := d + 3) H8.1 F8 mw1 m11 d3 (Nat.le_trans s11 iw1)).mono (fun M97 g => ?_)⟩
  obtain ⟨c9, v9⟩ := g
  obtain ⟨n9, H9⟩ := H8.st tw1 c9
  have N9 := N8.trans n9
  have X9 := (N9.num hF mf1 d9).2.2
  refine ⟨H9.1, s_wgD (d := d) (Q1 := Q1) (Q2 := Q2) (A := A) (U := U) H9 dw hsh b8 U0 hU (by rw [X9]; exact X0) (by rw [X9]; exact hFa) Q1n Q1b Q2n Q2b (v9.trans v8) ((c9.v F8 mw3 (nez (by decide))).trans U8) ((c9.v F8 m14 (fun e => d4 e.symm)).trans P8) ((c9.v F8 m16 (fun e => d5 e.symm)).trans Q8) hW0 b1 b2 hB (fun M' g1 g2 g3 => ?_)⟩
  rw [X9] at g2
  exact hQ M' (N9.trans g1) g2 g3
/-- the second quotient -/
theorem s_wgB {Q : mM → Prop} {Q1 A U V R : Int} {r : Nat} (h : Wsc L W z w f M) (dw : Dwg z w f) (hsh : 0 ≤ sh ∧ sh < 1073741824) (A0 : 0 ≤ A) (hA : A < 2 ^ (30 * a)) (U0 : 0 ≤ U) (hU : U < 2 ^ (30 * u)) (X0 : 0 ≤ nv M (f + 1)) (hFa : nv M (f + 1) < 2 ^ (30 * S)) (V4 : nv M (f + 3) = V) (hV : V < 2 ^ (30 * S)) (Q1n : 0 ≤ Q1) (Q1b : Q1 < 2 ^ (30 * u)) (A7 : nv M (w + 1) = A) (U7 : nv M (w + 3) = U) (v4 : nv M (z + 14) = Q1) (er : r = z + 1 ∨ r = z + 3) (R4 : nv M r = R) (r0 : 0 < R) (rB : R < 2 ^ (30 * (u + S))) (rd2 : R ∣ V) (hW : ∀ x, Twg z w x → B ≤ W x) (b1 : a + S + 3 ≤ B) (b2 : u + S + 3 ≤ B) (hB : B ≤ 16000)
    (hQ : ∀ M' Q2, NL L W (Twg z w) (fun _ => False) False z M M' → nv M' (w + 1) = A * Q2 + sh * (nv M (f + 1) * Q1) → nv M' (w + 3) = U * Q2 → V = R * Q2 → 0 ≤ Q2 → Q M') : mK M z = 9 ∧ mK M f = 11 ∧ mK M (mR M z 8) = 10 ∧ Cv G y_Na_put1 (d + 4) [vr (mR M z 8), vr (mR M f 1)] M (fun M75 => mOk M75 ∧ (mK M75 z = 9 ∧ mK M75 (mR M75 z 8) = 10 ∧ Cv G y_Na_divide (d + 4) [vr (mR M75 z 8), vr r, vr (mR M75 z 2), vr (mR M75 z 3)] M75 (fun M80 => mOk M80 ∧ (mK M80 z = 9 ∧ mK M80 (mR M80 z 8) = 10 ∧ Cv G y_Na_put1 (d + 4) [vr (mR M80 z 8), vr (mR M80 z 2)] M80 (fun M85 => mOk M85 ∧ (mK M85 z = 9 ∧ mK M85 w = 11 ∧ mK M85 (mR M85 z 5) = 10 ∧ Cv G y_Na_putProduct (d + 4) [vr (mR M85 z 5), vr (mR M85 w 0), vr (mR M85 z 8)] M85 (fun M91 => mOk M91 ∧ (mK M91 w = 11 ∧ mK M91 z = 9 ∧ mK M91 (mR M91 w 0) = 10 ∧ Cv G y_Na_put1 (d + 4) [vr (mR M91 w 0), vr (mR M91 z 5)] M91 (fun M97 => mOk M97 ∧ (mK M97 z = 9 ∧ mK M97 f = 11 ∧ mK M97 (mR M97 z 5) = 10 ∧ Cv G y_Na_putProduct (d + 4) [vr (mR M97 z 5), vr (mR M97 f 0), vr (mR M97 z 7)] M97 (fun M103 => mOk M103 ∧ (mK M103 w = 11 ∧ mK M103 z = 9 ∧ mK M103 (mR M103 w 0) = 10 ∧ Cv G y_Na_add (d + 4) [vr (mR M103 w 0), vr (mR M103 z 5), vi sh] M103 (fun M109 => mOk M109 ∧ (mK M109 z = 9 ∧ mK M109 w = 11 ∧ mK M109 (mR M109 z 5) = 10 ∧ Cv G y_Na_putProduct (d + 4) [vr (mR M109 z 5), vr (mR M109 w 1), vr (mR M109 z 8)] M109 (fun M115 => mOk M115 ∧ (mK M115 w = 11 ∧ mK M115 z = 9 ∧ mK M115 (mR M115 w 1) = 10 ∧ Cv G y_Na_put1 (d + 4) [vr (mR M115 w 1), vr (mR M115 z 5)] M115 (fun M121 => mOk M121 ∧ (Q M121)))))))))))))))))) := by
  have hW0 := hW
  obtain ⟨⟨d1, d2, d3, d4, d5, d6, d7, d8⟩, d9, d10, d11⟩ := id dw
  obtain ⟨hO, hF, hS, hw, hf⟩ := id h
  obtain ⟨⟨k1, k2, k3⟩, ⟨r2, r3, r5, r7, r8⟩, ⟨w0, w1⟩, ⟨f0, f1⟩, m5, m7, m11, m14, m16, mw1, mw3, mf1, mf3⟩ := h.pl
  have t5 : Twg z w (z + 5) := Or.inl (Or.inr (Or.inr (Or.inl rfl)))
  have t7 : Twg z w (z + 7) := Or.inl (Or.inr (Or.inr (Or.inr rfl)))
  have t11 : Twg z w (z + 11) := Or.inr (Or.inl rfl)
  have t14 : Twg z w (z + 14) := Or.inr (Or.inr (Or.inl rfl))
  have t16 : Twg z w (z + 16) := Or.inr (Or.inr (Or.inr (Or.inl rfl)))
  have tw1 : Twg z w (w + 1) := Or.inr (Or.inr (Or.inr (Or.inr (Or.inl rfl))))
  have tw3 : Twg z w (w + 3) := Or.inr (Or.inr (Or.inr (Or.inr (Or.inr rfl))))
  have nf1 : ∀ x, Twg z w x → f + 1 ≠ x := fun x hx e => d9 (by rw [e]; exact hx)
  have nf3 : ∀ x, Twg z w x → f + 3 ≠ x := fun x hx e => d10 (by rw [e]; exact hx)
  obtain ⟨⟨i16, i4⟩, ⟨i14, i142, i5, i7⟩, ⟨j16, j162, j5⟩, ⟨i11, iw1, j11, iw11, jw11, l11, iw3⟩⟩ := wg_in (a := a) hW b1 b2 hB
  obtain ⟨⟨x1, x2⟩, ⟨x3, x4⟩, x5⟩ := dw.nx
  clear hW
  have tr : Twg z w r := Or.inl (er.elim Or.inl (fun e => Or.inr (Or.inl e)))
  have mr : r ∈ L := h.tw r tr
  obtain ⟨⟨rn5, rn7, rn14, rn16⟩, rx, ry⟩ := r_n er
  have svf := hF.szv mf3 (show nv M (f + 3) < 2 ^ (30 * S) by rw [V4]; exact hV)
  rw [r8, f1]
  refine ⟨k1, k3, hF.kd m16, (f_put1 (d := d + 3) hO hF m16 mf3 (fun e => nf3 _ t16 e.symm) (Nat.le_trans svf j16)).mono (fun M75 g => ?_)⟩
  obtain ⟨c5, v5⟩ := g
  obtain ⟨N5, H5⟩ := h.st t16 c5
  have F5 := H5.2.1
  obtain ⟨⟨k1, k2, k3⟩, ⟨r2, r3, r5, r7, r8⟩, ⟨w0, w1⟩, ⟨f0, f1⟩, -⟩ := H5.pl
  have R5 := (c5.v hF mr rn16).trans R4
  have P5 := (c5.v hF m14 (nez (by decide))).trans v4
  rw [V4] at v5
  have s16 : sz M75 (z + 16) ≤ S := F5.szv m16 (by rw [v5]; exact hV)
  have sr5 : sz M75 r ≤ u + S := F5.szv mr (by rw [R5]; exact rB)
  rw [r8, r2, r3]
  refine ⟨H5.1, k1, F5.kd m16, (f_divide (d := d + 1) H5.1 F5 m16 mr m5 m7 (fun e => rn16 e.symm) (nez (by decide)) (nez (by decide)) rn5 rn7 (nez (by decide)) (by rw [R5]; exact r0) (Nat.le_trans (Nat.add_le_add_right s16 2) j162) (Nat.le_trans (Nat.add_le_add_right s16 1) j5) (Nat.le_trans (Nat.add_le_add_right sr5 1) (Nat.le_of_succ_le i4.2.2.2))).mono (fun M80 g => ?_)⟩
  obtain ⟨c6, v6, l6⟩ := g
  obtain ⟨n6, H6⟩ := H5.st3 ⟨t16, t5, t7⟩ c6
  have N6 := N5.trans n6
  have F6 := H6.2.1
  obtain ⟨⟨k1, k2, k3⟩, ⟨r2, r3, r5, r7, r8⟩, ⟨w0, w1⟩, ⟨f0, f1⟩, -⟩ := H6.pl
  rw [v5, R5] at v6
  rw [R5] at l6
  have Q2n := F6.nn0 m5
  have EV := dv_ex r0 rd2 v6 ⟨F6.nn0 m16, l6⟩
  have P6 := ((c6.num F5 m14 x5).2.2.2.2.1).trans P5
  have Q2b := qb r0 Q2n EV hV
  have s5 : sz M80 (z + 5) ≤ S := F6.szv m5 Q2b
  rw [r8, r2]
  refine ⟨H6.1, k1, F6.kd m16, (f_put1 (d := d + 3) H6.1 F6 m16 m5 (nez (by decide)) (Nat.le_trans s5 j16)).mono (fun M85 g => ?_)⟩
  obtain ⟨c7, v7⟩ := g
  obtain ⟨n7, H7⟩ := H6.st t16 c7
  have N7 := N6.trans n7
  have P7 := (c7.v F6 m14 (nez (by decide))).trans P6
  have A7' : nv M85 (w + 1) = A := by
    rw [c7.v F6 mw1 d5, (c6.num F5 mw1 x2).2.2.2.2.1, c5.v hF mw1 d5, A7]
  have U7' : nv M85 (w + 3) = U := by
    rw [c7.v F6 mw3 d8, (c6.num F5 mw3 x4).2.2.2.2.1, c5.v hF mw3 d8, U7]
  have X7 := (N7.num hF mf1 d9).2.2
  refine ⟨H7.1, s_wgC (d := d) (Q2 := nv M80 (z + 5)) H7 dw hsh A0 hA U0 hU (by rw [X7]; exact X0) (by rw [X7]; exact hFa) Q1n Q1b Q2n Q2b A7' U7' P7 v7 hW0 b1 b2 hB (fun M' g1 g2 g3 => ?_)⟩
  rw [X7] at g2
  exact hQ M' (nv M80 (z + 5)) (N7.trans g1) g2 g3 EV Q2n
/-- the sum over two different numbers below -/
theorem s_wgDiff {Q : mM → Prop} (h : Wsc L W z w f M) (dw : Dwg z w f) (hsh : 0 ≤ sh ∧ sh < 1073741824) (UV : 0 < nv M (w + 3) ∨ 0 < nv M (f + 3)) (hA : nv M (w + 1) < 2 ^ (30 * a)) (hU : nv M (w + 3) < 2 ^ (30 * u)) (hV : nv M (f + 3) < 2 ^ (30 * S)) (hFa : nv M (f + 1) < 2 ^ (30 * S)) (hW : ∀ x, Twg z w x → B ≤ W x) (b1 : a + S + 3 ≤ B) (b2 : u + S + 3 ≤ B) (hB : B ≤ 16000)
    (hQ : ∀ M' Q1 Q2 r, NL L W (Twg z w) (fun _ => False) False z M M' → nv M' (w + 1) = nv M (w + 1) * Q2 + sh * (nv M (f + 1) * Q1) → nv M' (w + 3) = nv M (w + 3) * Q2 → nv M (w + 3) = r * Q1 → nv M (f + 3) = r * Q2 → 0 < r → 0 ≤ Q1 → 0 ≤ Q2 → Q M') : mK M w = 11 ∧ mK M f = 11 ∧ mK M z = 9 ∧ Cr G y_Sc_commonDivisor (d + 4) [vr z, vr (mR M w 1), vr (mR M f 1)] M (fun x54 M53 => mOk M53 ∧ (mK M53 z = 9 ∧ mK M53 w = 11 ∧ mK M53 (mR M53 z 7) = 10 ∧ Cv G y_Na_put1 (d + 4) [vr (mR M53 z 7), vr (mR M53 w 1)] M53 (fun M59 => mOk M59 ∧ (mK M59 z = 9 ∧ mK M59 (mR M59 z 7) = 10 ∧ Cv G y_Na_divide (d + 4) [vr (mR M59 z 7), vr x54, vr (mR M59 z 2), vr (mR M59 z 3)] M59 (fun M64 => mOk M64 ∧ (mK M64 z = 9 ∧ mK M64 (mR M64 z 7) = 10 ∧ Cv G y_Na_put1 (d + 4) [vr (mR M64 z 7), vr (mR M64 z 2)] M64 (fun M69 => mOk M69 ∧ (mK M69 z = 9 ∧ mK M69 f = 11 ∧ mK M69 (mR M69 z 8) = 10 ∧ Cv G y_Na_put1 (d + 4) [vr (mR M69 z 8), vr (mR M69 f 1)] M69 (fun M75 => mOk M75 ∧ (mK M75 z = 9 ∧ mK M75 (mR M75 z 8) = 10 ∧ Cv G y_Na_divide (d + 4) [vr (mR M75 z 8), vr x54, vr (mR M75 z 2), vr (mR M75 z 3)] M75 (fun M80 => mOk M80 ∧ (mK M80 z = 9 ∧ mK M80 (mR M80 z 8) = 10 ∧ Cv G y_Na_put1 (d + 4) [vr (mR M80 z 8), vr (mR M80 z 2)] M80 (fun M85 => mOk M85 ∧ (mK M85 z = 9 ∧ mK M85 w = 11 ∧ mK M85 (mR M85 z 5) = 10 ∧ Cv G y_Na_putProduct (d + 4) [vr (mR M85 z 5), vr (mR M85 w 0), vr (mR M85 z 8)] M85 (fun M91 => mOk M91 ∧ (mK M91 w = 11 ∧ mK M91 z = 9 ∧ mK M91 (mR M91 w 0) = 10 ∧ Cv G y_Na_put1 (d + 4) [vr (mR M91 w 0), vr (mR M91 z 5)] M91 (fun M97 => mOk M97 ∧ (mK M97 z = 9 ∧ mK M97 f = 11 ∧ mK M97 (mR M97 z 5) = 10 ∧ Cv G y_Na_putProduct (d + 4) [vr (mR M97 z 5), vr (mR M97 f 0), vr (mR M97 z 7)] M97 (fun M103 => mOk M103 ∧ (mK M103 w = 11 ∧ mK M103 z = 9 ∧ mK M103 (mR M103 w 0) = 10 ∧ Cv G y_Na_add (d + 4) [vr (mR M103 w 0), vr (mR M103 z 5), vi sh] M103 (fun M109 => mOk M109 ∧ (mK M109 z = 9 ∧ mK M109 w = 11 ∧ mK M109 (mR M109 z 5) = 10 ∧ Cv G y_Na_putProduct (d + 4) [vr (mR M109 z 5), vr (mR M109 w 1), vr (mR M109 z 8)] M109 (fun M115 => mOk M115 ∧ (mK M115 w = 11 ∧ mK M115 z = 9 ∧ mK M115 (mR M115 w 1) = 10 ∧ Cv G y_Na_put1 (d + 4) [vr (mR M115 w 1), vr (mR M115 z 5)] M115 (fun M121 => mOk M121 ∧ (Q M121)))))))))))))))))))))))))) := by
  have hW0 := hW
  obtain ⟨⟨d1, d2, d3, d4, d5, d6, d7, d8⟩, d9, d10, d11⟩ := id dw
  obtain ⟨hO, hF, hS, hw, hf⟩ := id h
  obtain ⟨⟨k1, k2, k3⟩, ⟨r2, r3, r5, r7, r8⟩, ⟨w0, w1⟩, ⟨f0, f1⟩, m5, m7, m11, m14, m16, mw1, mw3, mf1, mf3⟩ := h.pl
  have t5 : Twg z w (z + 5) := Or.inl (Or.inr (Or.inr (Or.inl rfl)))
  have t7 : Twg z w (z + 7) := Or.inl (Or.inr (Or.inr (Or.inr rfl)))
  have t11 : Twg z w (z + 11) := Or.inr (Or.inl rfl)
  have t14 : Twg z w (z + 14) := Or.inr (Or.inr (Or.inl rfl))
  have t16 : Twg z w (z + 16) := Or.inr (Or.inr (Or.inr (Or.inl rfl)))
  have tw1 : Twg z w (w + 1) := Or.inr (Or.inr (Or.inr (Or.inr (Or.inl rfl))))
  have tw3 : Twg z w (w + 3) := Or.inr (Or.inr (Or.inr (Or.inr (Or.inr rfl))))
  have nf1 : ∀ x, Twg z w x → f + 1 ≠ x := fun x hx e => d9 (by rw [e]; exact hx)
  have nf3 : ∀ x, Twg z w x → f + 3 ≠ x := fun x hx e => d10 (by rw [e]; exact hx)
  obtain ⟨⟨i16, i4⟩, ⟨i14, i142, i5, i7⟩, ⟨j16, j162, j5⟩, ⟨i11, iw1, j11, iw11, jw11, l11, iw3⟩⟩ := wg_in (a := a) hW b1 b2 hB
  obtain ⟨⟨x1, x2⟩, ⟨x3, x4⟩, x5⟩ := dw.nx
  clear hW
  have suw := hF.szv mw3 hU
  have svf := hF.szv mf3 hV
  rw [w1, f1]
  refine ⟨k2, k3, k1, (f_common (d := d) (S := u + S) hO hF hS mw3 mf3 d2 (fun e => d10 (Or.inl e)) UV (Nat.le_trans suw (Nat.le_add_right _ _)) (Nat.le_trans svf (Nat.le_add_left _ _)) i16 i4).mono (fun r M53 g => ?_)⟩
  obtain ⟨er, N53, r0, rd1, rd2, -⟩ := g
  have N1 : NL L W (Twg z w) (fun _ => False) False z M M53 := N53.mono hF (fun t ht => Or.inl ht) h.tw (fun _ e => e) noI (fun e => e)
  have H1 := h.nl N1
  have tr : Twg z w r := Or.inl (er.elim Or.inl (fun e => Or.inr (Or.inl e)))
  have mr : r ∈ L := h.tw r tr
  obtain ⟨⟨rn5, rn7, rn14, rn16⟩, rx, ry⟩ := r_n er
  obtain ⟨⟨k1, k2, k3⟩, ⟨r2, r3, r5, r7, r8⟩, ⟨w0, w1⟩, ⟨f0, f1⟩, -⟩ := H1.pl
  have A1 := (N53.num hF mw1 d1).2.2
  have U1 := (N53.num hF mw3 d2).2
  have F1 := H1.2.1
  have rB : nv M53 r < 2 ^ (30 * (u + S)) := by
    rcases UV with q | q
    · exact Int.lt_of_le_of_lt (Int.le_of_dvd q rd1) (Int.lt_of_lt_of_le hU (p30m (Nat.le_add_right _ _)))
    · exact Int.lt_of_le_of_lt (Int.le_of_dvd q rd2) (Int.lt_of_lt_of_le hV (p30m (Nat.le_add_left _ _)))
  have sr : sz M53 r ≤ u + S := F1.szv mr rB
  have U0 := hF.nn0 mw3
  rw [r7, w1]
  refine ⟨H1.1, k1, k2, F1.kd m14, (f_put1 (d := d + 3) H1.1 F1 m14 mw3 (fun e => d7 e.symm) (by rw [U1.1]; exact Nat.le_trans suw i14)).mono (fun M59 g => ?_)⟩
  obtain ⟨c2, v2⟩ := g
  obtain ⟨n2, H2⟩ := H1.st t14 c2
  have N2 := N1.trans n2
  have F2 := H2.2.1
  obtain ⟨⟨k1, k2, k3⟩, ⟨r2, r3, r5, r7, r8⟩, ⟨w0, w1⟩, ⟨f0, f1⟩, -⟩ := H2.pl
  have R2 := c2.v F1 mr rn14
  rw [U1.2] at v2
  have s14 : sz M59 (z + 14) ≤ u := F2.szv m14 (by rw [v2]; exact hU)
  have sr2 : sz M59 r ≤ u + S := by rw [(c2.num F1 mr rn14).2.2.2.1]; exact sr
  rw [r7, r2, r3]
  refine ⟨H2.1, k1, F2.kd m14, (f_divide (d := d + 1) H2.1 F2 m14 mr m5 m7 (fun e => rn14 e.symm) (nez (by decide)) (nez (by decide)) rn5 rn7 (nez (by decide)) (by rw [R2]; exact r0) (Nat.le_trans (Nat.add_le_add_right s14 2) i142) (Nat.le_trans (Nat.add_le_add_right s14 1) i5) (Nat.le_trans (Nat.add_le_add_right sr2 1) (Nat.le_of_succ_le i4.2.2.2))).mono (fun M64 g => ?_)⟩
  obtain ⟨c3, v3, l3⟩ := g
  obtain ⟨n3, H3⟩ := H2.st3 ⟨t14, t5, t7⟩ c3
  have N3 := N2.trans n3
  have F3 := H3.2.1
  obtain ⟨⟨k1, k2, k3⟩, ⟨r2, r3, r5, r7, r8⟩, ⟨w0, w1⟩, ⟨f0, f1⟩, -⟩ := H3.pl
  rw [v2, R2] at v3
  rw [R2] at l3
  have Q1n := F3.nn0 m5
  have EU := dv_ex r0 rd1 v3 ⟨F3.nn0 m14, l3⟩
  have R3 := ((c3.num F2 mr rx).2.2.2.2.1).trans R2
  have Q1b := qb r0 Q1n EU hU
  have s5 : sz M64 (z + 5) ≤ u := F3.szv m5 Q1b
  rw [r7, r2]
  refine ⟨H3.1, k1, F3.kd m14, (f_put1 (d := d + 3) H3.1 F3 m14 m5 (nez (by decide)) (Nat.le_trans s5 i14)).mono (fun M69 g => ?_)⟩
  obtain ⟨c4, v4⟩ := g
  obtain ⟨n4, H4⟩ := H3.st t14 c4
  have N4 := N3.trans n4
  have R4 := (c4.v F3 mr rn14).trans R3
  have V4 := (N4.num hF mf3 d10).2.2
  have X4 := (N4.num hF mf1 d9).2.2
  have A4 : nv M69 (w + 1) = nv M (w + 1) := by
    rw [c4.v F3 mw1 d4, (c3.num F2 mw1 x1).2.2.2.2.1, c2.v F1 mw1 d4, A1]
  have U4 : nv M69 (w + 3) = nv M (w + 3) := by
    rw [c4.v F3 mw3 d7, (c3.num F2 mw3 x3).2.2.2.2.1, c2.v F1 mw3 d7, U1.2]
  refine ⟨H4.1, s_wgB (d := d) (Q1 := nv M64 (z + 5)) H4 dw hsh (hF.nn0 mw1) hA U0 hU (by rw [X4]; exact hF.nn0 mf1) (by rw [X4]; exact hFa) V4 hV Q1n Q1b A4 U4 v4 er R4 r0 rB rd2 hW0 b1 b2 hB (fun M' Q2 g1 g2 g3 g4 g5 => ?_)⟩
  rw [X4] at g2
  exact hQ M' (nv M64 (z + 5)) Q2 (nv M53 r) (N4.trans g1) g2 g3 EU g4 r0 Q1n g5
end NAU
end
section
/-! The Scales: rows of fractions, and what weighing keeps. -/
theorem wg_A {A Q2 sh Fa Q1 P T k : Int} (hP : 0 < P) (hT : 0 < T) (hA0 : 0 ≤ A) (hA : A < k * (P * 1152921504606846976)) (h2 : 0 ≤ Q2) (h2' : Q2 ≤ T) (hs : 0 ≤ sh) (hs' : sh ≤ 1073741824) (hF : 0 ≤ Fa) (hF' : Fa ≤ T) (h1 : 0 ≤ Q1) (h1' : Q1 ≤ P * 1073741824) : A * Q2 + sh * (Fa * Q1) < (k + 1) * (P * T * 1152921504606846976) := by
  have a1 : A * Q2 ≤ A * T := Int.mul_le_mul_of_nonneg_left h2' hA0
  have a2 : A * T < k * (P * 1152921504606846976) * T := Int.mul_lt_mul_of_pos_right hA hT
  have a3 : Fa * Q1 ≤ T * Q1 := Int.mul_le_mul_of_nonneg_right hF' h1
  have a4 : T * Q1 ≤ T * (P * 1073741824) := Int.mul_le_mul_of_nonneg_left h1' (Int.le_of_lt hT)
  have a5 : sh * (Fa * Q1) ≤ 1073741824 * (Fa * Q1) := Int.mul_le_mul_of_nonneg_right hs' (Int.mul_nonneg hF h1)
  have e1 : k * (P * 1152921504606846976) * T = k * (P * T * 1152921504606846976) := by grind
  have e2 : T * (P * 1073741824) = P * T * 1073741824 := by grind
  rw [Int.add_mul, Int.one_mul, ← e1]
  omega
theorem wg_A2 {A sh Fa P T k : Int} (hP : 1 ≤ P) (hT : 1 ≤ T) (hk : 0 ≤ k) (hA : A < k * (P * 1152921504606846976)) (hs : 0 ≤ sh) (hs' : sh ≤ 1073741824) (hF : 0 ≤ Fa) (hF' : Fa ≤ T) : A + sh * Fa < (k + 1) * (P * T * 1152921504606846976) := by
  have a1 : sh * Fa ≤ 1073741824 * Fa := Int.mul_le_mul_of_nonneg_right hs' hF
  have a2 : P * 1 ≤ P * T := Int.mul_le_mul_of_nonneg_left hT (by omega)
  have a3 : 1 * T ≤ P * T := Int.mul_le_mul_of_nonneg_right hP (by omega)
  have a4 : k * (P * 1152921504606846976) ≤ k * (P * T * 1152921504606846976) := Int.mul_le_mul_of_nonneg_left (by omega) hk
  rw [Int.add_mul, Int.one_mul]
  omega
theorem wg_P {A Q2 sh Fa Q1 U V s r : Int} (h2 : 0 ≤ Q2) (h1 : 0 ≤ Q1) (hs : 0 ≤ sh) (hA : A ≤ s * U) (hF : Fa ≤ V) (eU : U = r * Q1) (eV : V = r * Q2) : A * Q2 + sh * (Fa * Q1) ≤ (s + sh) * (U * Q2) := by
  have a1 : A * Q2 ≤ s * U * Q2 := Int.mul_le_mul_of_nonneg_right hA h2
  have a2 : Fa * Q1 ≤ V * Q1 := Int.mul_le_mul_of_nonneg_right hF h1
  have a3 : sh * (Fa * Q1) ≤ sh * (V * Q1) := Int.mul_le_mul_of_nonneg_left a2 hs
  have e : V * Q1 = U * Q2 := by rw [eU, eV]; grind
  rw [e] at a3
  rw [Int.mul_assoc] at a1
  rw [Int.add_mul]
  omega
theorem wg_P2 {A sh Fa U s : Int} (hs : 0 ≤ sh) (hA : A ≤ s * U) (hF : Fa ≤ U) : A + sh * Fa ≤ (s + sh) * U := by
  have a3 : sh * Fa ≤ sh * U := Int.mul_le_mul_of_nonneg_left hF hs
  rw [Int.add_mul]
  omega
theorem wg_U {U Q2 P T : Int} (hT : 0 < T) (h0 : 0 ≤ U) (hU : U < P * 1073741824) (h2' : Q2 ≤ T) : U * Q2 < P * T * 1073741824 := by
  have a1 : U * Q2 ≤ U * T := Int.mul_le_mul_of_nonneg_left h2' h0
  have a2 : U * T < P * 1073741824 * T := Int.mul_lt_mul_of_pos_right hU hT
  have e : P * 1073741824 * T = P * T * 1073741824 := by grind
  omega
section NAV
variable {G : mG} {d b c z n m w S x y B u g a R cn bc i j mu : Nat} {M M0 M' M1 M2 M3 : mM} {L : List Nat} {W : Nat → Nat} {T T' I I' : Nat → Prop} {r r' : Prop} {sh : Int}
/-- a table of fractions: R its rows -/
def Rws (L : List Nat) (M : mM) (a R cn : Nat) : Prop := mK M a = 13 ∧ mR M a 0 = R ∧ mK M R = 35 ∧ cn ≤ mN M R ∧ (Oc L M a ∧ Oc L M R) ∧ ∀ i, i < cn → FrL L M (mR M R i)
/-- the rows' numbers are small -/
def Rsm (M : mM) (R cn S : Nat) : Prop := ∀ i, i < cn → 0 ≤ nv M (mR M R i + 3) ∧ nv M (mR M R i + 3) < 2 ^ (30 * S) ∧ nv M (mR M R i + 1) < 2 ^ (30 * S)
/-- no row is above 1 -/
def Rle (M : mM) (R cn : Nat) : Prop := ∀ i, i < cn → nv M (mR M R i + 1) ≤ nv M (mR M R i + 3) ∧ 0 < nv M (mR M R i + 3)
/-- the game's tables as far as they are read here -/
def GK9 (M : mM) (g : Nat) : Prop := mK M g = 7 ∧ (mR M g 2 = g + 2 ∧ mR M g 4 = g + 4 ∧ mR M g 6 = g + 6 ∧ mR M g 7 = g + 7 ∧ mR M g 8 = g + 8 ∧ mR M g 9 = g + 9) ∧ (∀ i, 1 ≤ i → i ≤ 9 → mK M (g + i) = 30) ∧ (mN M (g + 2) = 512 ∧ mN M (g + 4) = 513 ∧ mN M (g + 6) = 4097 ∧ mN M (g + 7) = 4098 ∧ mN M (g + 8) = 4096 ∧ mN M (g + 9) = 4096)
theorem GK.g9 (h : GK M g) : GK9 M g := by
  obtain ⟨h1, ⟨-, r2, -, r4, -, r6, r7, r8, r9, -⟩, ⟨k1, k2, k3, k4, k5, k6, k7, k8, k9, -⟩, ⟨-, n2, -, n4, -, n6, n7, n8, n9, -⟩⟩ := h
  refine ⟨h1, ⟨r2, r4, r6, r7, r8, r9⟩, fun i hi hi' => ?_, n2, n4, n6, n7, n8, n9⟩
  rcases (show i = 1 ∨ i = 2 ∨ i = 3 ∨ i = 4 ∨ i = 5 ∨ i = 6 ∨ i = 7 ∨ i = 8 ∨ i = 9 by first | rfl | omega) with e | e | e | e | e | e | e | e | e <;> rw [e] <;> assumption
/-- where weighing works, with the tables alone -/
def We (L : List Nat) (W : Nat → Nat) (z w g a R cn : Nat) (M : mM) : Prop := (mOk M ∧ NF L W M ∧ SK L M z ∧ FrL L M w) ∧ (GK9 M g ∧ ∀ i, i ≤ 9 → Oc L M (g + i)) ∧ Rws L M a R cn ∧ ∀ i, i < cn → Dwg z w (mR M R i)
theorem GK9.kd (h : GK9 M g) (hi : i ≤ 9) : mK M (g + i) ≠ 9 ∧ mK M (g + i) ≠ 11 := by
  by_cases e : i = 0
  · rw [e, Nat.add_zero, h.1]; decide
  · rw [h.2.2.1 i (by omega) hi]; decide
theorem Rws.kd (h : Rws L M a R cn) : (mK M a ≠ 9 ∧ mK M a ≠ 11) ∧ (mK M R ≠ 9 ∧ mK M R ≠ 11) := by
  rw [h.1, h.2.2.1]; decide
theorem We.tb (h : We L W z w g a R cn M) (k : NL L W T I r z M M') (hI : ∀ x, I x → mK M x = 11) : GK9 M' g ∧ (∀ i, i ≤ 9 → Oc L M' (g + i)) ∧ (∀ i, i ≤ 9 → mI M' (g + i) = mI M (g + i)) ∧ Rws L M' a R cn ∧ mR M' R = mR M R := by
  obtain ⟨⟨h1, h2, h3, h4⟩, ⟨h5, h6⟩, h7, h8⟩ := h
  have z9 := h3.1.1
  have ox : ∀ x, Oc L M x → mK M x ≠ 9 → mK M x ≠ 11 → mK M' x = mK M x ∧ mN M' x = mN M x ∧ mR M' x = mR M x ∧ mI M' x = mI M x := by
    intro x hx k9 k11
    obtain ⟨a1, a2, a3, a4⟩ := k.oth hx (fun e => by rw [e] at k9; exact k9 z9)
    exact ⟨a1, a2, a3, a4 (fun e => k11 (hI x e))⟩
  have og := fun i (hi : i ≤ 9) => ox (g + i) (h6 i hi) (h5.kd hi).1 (h5.kd hi).2
  obtain ⟨q1, q2, q3, q4, ⟨q5, q6⟩, q7⟩ := id h7
  obtain ⟨⟨ka1, ka2⟩, kb1, kb2⟩ := h7.kd
  have oa := ox a q5 ka1 ka2
  have oR := ox R q6 kb1 kb2
  have g0 := og 0 (by decide)
  rw [Nat.add_zero] at g0
  refine ⟨⟨by rw [g0.1]; exact h5.1, by rw [g0.2.2.1]; exact h5.2.1, fun i hi hi' => by rw [(og i hi').1]; exact h5.2.2.1 i hi hi', ?_⟩, fun i hi => k.oc h2 (h6 i hi), fun i hi => (og i hi).2.2.2, ⟨by rw [oa.1]; exact q1, by rw [oa.2.2.1]; exact q2, by rw [oR.1]; exact q3, by rw [oR.2.1]; exact q4, ⟨k.oc h2 q5, k.oc h2 q6⟩, fun i hi => by rw [oR.2.2.1]; exact k.frl h2 (q7 i hi)⟩, oR.2.2.1⟩
  rw [(og 2 (by decide)).2.1, (og 4 (by decide)).2.1, (og 6 (by decide)).2.1, (og 7 (by decide)).2.1, (og 8 (by decide)).2.1, (og 9 (by decide)).2.1]
  exact h5.2.2.2
theorem We.nl (h : We L W z w g a R cn M) (k : NL L W (Twg z w) (fun x => x = w) False z M M') : We L W z w g a R cn M' ∧ (∀ i, i ≤ 9 → mI M' (g + i) = mI M (g + i)) ∧ mR M' R = mR M R ∧ ∀ i, i < cn → nv M' (mR M R i + 1) = nv M (mR M R i + 1) ∧ nv M' (mR M R i + 3) = nv M (mR M R i + 3) := by
  obtain ⟨⟨h1, h2, h3, h4⟩, ⟨h5, h6⟩, h7, h8⟩ := id h
  obtain ⟨t1, t2, t3, t4, t5⟩ := h.tb k (fun x e => by rw [e]; exact h4.1.1)
  refine ⟨⟨⟨k.ok, k.nf, k.sk h2 h3, k.frl h2 h4⟩, ⟨t1, t2⟩, t4, fun i hi => by rw [t5]; exact h8 i hi⟩, t3, t5, fun i hi => ?_⟩
  have hf := h7.2.2.2.2.2 i hi
  have dw := (h8 i hi).2
  exact ⟨(k.num h2 hf.2.1 dw.1).2.2, (k.num h2 hf.2.2 dw.2.1).2.2⟩
theorem We.ws (h : We L W z w g a R cn M) (hi : i < cn) : Wsc L W z w (mR M R i) M := ⟨h.1.1, h.1.2.1, h.1.2.2.1, h.1.2.2.2, h.2.2.1.2.2.2.2.2 i hi⟩
/-- what weighing leaves behind -/
def wgQ (L : List Nat) (W : Nat → Nat) (z w : Nat) (R cn S : Nat) (mu : Int) (M M' : mM) : Prop := NL L W (Twg z w) (fun x => x = w) False z M M' ∧ (0 ≤ nv M' (w + 3) ∧ nv M' (w + 3) < 2 ^ (30 * (8 * S + 1))) ∧ nv M' (w + 1) < 2 ^ (30 * (8 * S + 3)) ∧ mI M' w 2 = mu ∧ (Rle M R cn → nv M' (w + 1) ≤ mu * nv M' (w + 3) ∧ 0 < nv M' (w + 3))
/-- on the way: j branches are done -/
def wgI (M0 : mM) (R cn : Nat) (w S j : Nat) (sm : Int) (M : mM) : Prop := (0 ≤ nv M (w + 3) ∧ nv M (w + 3) < 2 ^ (30 * (S * j)) * 1073741824) ∧ nv M (w + 1) < ((j : Int) + 1) * (2 ^ (30 * (S * j)) * 1152921504606846976) ∧ (Rle M0 R cn → nv M (w + 1) ≤ sm * nv M (w + 3) ∧ 0 < nv M (w + 3))
theorem wg_skip {sm : Int} (h : wgI M0 R cn w S j sm M) (hs : 0 ≤ sh) (h1 : 0 ≤ nv M (w + 1)) : wgI M0 R cn w S (j + 1) (sm + sh) M := by
  obtain ⟨⟨u0, u1⟩, a1, p⟩ := h
  have e : (2 : Int) ^ (30 * (S * (j + 1))) = 2 ^ (30 * (S * j)) * 2 ^ (30 * S) := by rw [← p30a, Nat.mul_add, Nat.mul_one]
  have t1 : (1 : Int) ≤ 2 ^ (30 * S) := p30p S
  have t2 : (1 : Int) ≤ 2 ^ (30 * (S * j)) := p30p (S * j)
  have := wg_A2 (A := nv M (w + 1)) (sh := 0) (Fa := 0) (P := 2 ^ (30 * (S * j))) (T := 2 ^ (30 * S)) (k := (j : Int) + 1) t2 t1 (by omega) a1 (by omega) (by omega) (by omega) (by omega)
  have t3 := Int.mul_le_mul_of_nonneg_left t1 (show (0 : Int) ≤ 2 ^ (30 * (S * j)) by omega)
  unfold wgI
  rw [e]
  refine ⟨⟨u0, by omega⟩, ?_, fun q => ?_⟩
  · rw [show (((j + 1 : Nat) : Int) + 1) = (j : Int) + 1 + 1 by first | rfl | omega]
    omega
  · obtain ⟨p1, p2⟩ := p q
    have := wg_P2 (Fa := 0) hs p1 (by omega)
    exact ⟨by omega, p2⟩
theorem wg_same {sm Fa : Int} (h : wgI M0 R cn w S j sm M) (hs : 0 ≤ sh ∧ sh < 1073741824) (e1 : nv M' (w + 1) = nv M (w + 1) + sh * Fa) (e3 : nv M' (w + 3) = nv M (w + 3)) (hF : 0 ≤ Fa ∧ Fa < 2 ^ (30 * S)) (hV : Rle M0 R cn → Fa ≤ nv M (w + 3)) : wgI M0 R cn w S (j + 1) (sm + sh) M' := by
  obtain ⟨⟨u0, u1⟩, a1, p⟩ := h
  have e : (2 : Int) ^ (30 * (S * (j + 1))) = 2 ^ (30 * (S * j)) * 2 ^ (30 * S) := by rw [← p30a, Nat.mul_add, Nat.mul_one]
  have t1 : (1 : Int) ≤ 2 ^ (30 * S) := p30p S
  have t2 : (1 : Int) ≤ 2 ^ (30 * (S * j)) := p30p (S * j)
  have := wg_A2 (A := nv M (w + 1)) (sh := sh) (Fa := Fa) (P := 2 ^ (30 * (S * j))) (T := 2 ^ (30 * S)) (k := (j : Int) + 1) t2 t1 (by omega) a1 hs.1 (by omega) hF.1 (by omega)
  have t3 := Int.mul_le_mul_of_nonneg_left t1 (show (0 : Int) ≤ 2 ^ (30 * (S * j)) by omega)
  unfold wgI
  rw [e, e1, e3]
  refine ⟨⟨u0, by omega⟩, ?_, fun q => ⟨wg_P2 hs.1 (p q).1 (hV q), (p q).2⟩⟩
  rw [show (((j + 1 : Nat) : Int) + 1) = (j : Int) + 1 + 1 by first | rfl | omega]
  exact this
theorem wg_diff {sm Fa V Q1 Q2 r : Int} (h : wgI M0 R cn w S j sm M) (hA0 : 0 ≤ nv M (w + 1)) (hs : 0 ≤ sh ∧ sh < 1073741824) (e1 : nv M' (w + 1) = nv M (w + 1) * Q2 + sh * (Fa * Q1)) (e3 : nv M' (w + 3) = nv M (w + 3) * Q2) (eU : nv M (w + 3) = r * Q1) (eV : V = r * Q2) (hr : 0 < r) (hV : 0 ≤ V ∧ V < 2 ^ (30 * S)) (h1 : 0 ≤ Q1) (h2 : 0 ≤ Q2) (hF : 0 ≤ Fa ∧ Fa < 2 ^ (30 * S)) (hle : Rle M0 R cn → Fa ≤ V ∧ 0 < V) : wgI M0 R cn w S (j + 1) (sm + sh) M' := by
  obtain ⟨⟨u0, u1⟩, a1, p⟩ := h
  have e : (2 : Int) ^ (30 * (S * (j + 1))) = 2 ^ (30 * (S * j)) * 2 ^ (30 * S) := by rw [← p30a, Nat.mul_add, Nat.mul_one]
  have t1 : (0 : Int) < 2 ^ (30 * S) := p30p S
  have t2 : (0 : Int) < 2 ^ (30 * (S * j)) := p30p (S * j)
  have q2 : Q2 ≤ V := by rw [eV]; have := Int.mul_le_mul_of_nonneg_right (show 1 ≤ r by omega) h2; omega
  have q1 : Q1 ≤ nv M (w + 3) := by rw [eU]; have := Int.mul_le_mul_of_nonneg_right (show 1 ≤ r by omega) h1; omega
  have q20 : 0 < V → 0 < Q2 := fun vp => Classical.byContradiction (fun u => by
    have : Q2 = 0 := by omega
    rw [this, Int.mul_zero] at eV
    omega)
  have w1 := wg_A (A := nv M (w + 1)) (Q2 := Q2) (sh := sh) (Fa := Fa) (Q1 := Q1) (P := 2 ^ (30 * (S * j))) (T := 2 ^ (30 * S)) (k := (j : Int) + 1) t2 t1 hA0 a1 h2 (by omega) hs.1 (by omega) hF.1 (by omega) h1 (by omega)
  have w3 := wg_U (Q2 := Q2) t1 u0 u1 (by omega)
  unfold wgI
  rw [e, e1, e3]
  refine ⟨⟨Int.mul_nonneg u0 h2, w3⟩, ?_, fun q => ⟨wg_P h2 h1 hs.1 (p q).1 (hle q).1 eU eV, Int.mul_pos (p q).2 (q20 (hle q).2)⟩⟩
  rw [show (((j + 1 : Nat) : Int) + 1) = (j : Int) + 1 + 1 by first | rfl | omega]
  exact w1
end NAV
end
section
/-! The Scales: what weighing comes to, as a number. -/
section WVS
variable {M0 M M' : mM} {R g x y c w f n m t j cn bc : Nat} {sh : Int} {v fv' : Rat}
/-- a row's number -/
def rwv (M : mM) (R t : Nat) : Rat := (nv M (mR M R t + 1) : Rat) * (nv M (mR M R t + 3) : Rat)⁻¹
/-- shares times rows -/
def wsv (M : mM) (R g x : Nat) : Nat → Rat
  | 0 => 0
  | n + 1 => wsv M R g x n + (mI M (g + 9) (x + n) : Rat) * rwv M R (mI M (g + 8) (x + n)).toNat
/-- a fraction's number -/
def fq9 (M : mM) (f : Nat) : Rat := (nv M (f + 1) : Rat) * ((mI M f 2 * nv M (f + 3) : Int) : Rat)⁻¹
theorem wsL_snoc {f : Nat → Rat} {b : Nat × Int} : ∀ l : List (Nat × Int), wsL9 f (l ++ [b]) = wsL9 f l + (b.2 : Rat) * f b.1
  | [] => by
    show (b.2 : Rat) * f b.1 + 0 = 0 + (b.2 : Rat) * f b.1
    grind
  | a :: l => by
    have h := wsL_snoc (f := f) (b := b) l
    show (a.2 : Rat) * f a.1 + wsL9 f (l ++ [b]) = ((a.2 : Rat) * f a.1 + wsL9 f l) + (b.2 : Rat) * f b.1
    rw [h]
    grind
theorem wsL_brl : ∀ n, wsL9 (rwv M R) (brl M g x n) = wsv M R g x n
  | 0 => rfl
  | n + 1 => by
    have h := wsL_brl n
    show wsL9 (rwv M R) (brl M g x n ++ [((mI M (g + 8) (x + n)).toNat, mI M (g + 9) (x + n))]) = wsv M R g x n + (mI M (g + 9) (x + n) : Rat) * rwv M R (mI M (g + 8) (x + n)).toNat
    rw [wsL_snoc, h]
theorem cmm_ws (e1 : mI M (g + 7) c = ((x : Nat) : Int)) (e2 : mI M (g + 7) (c + 1) = ((y : Nat) : Int)) : wsL9 (rwv M R) (cmm M g c).2.2 = wsv M R g x (y - x) := by
  show wsL9 (rwv M R) (brl M g (mI M (g + 7) c).toNat ((mI M (g + 7) (c + 1)).toNat - (mI M (g + 7) c).toNat)) = wsv M R g x (y - x)
  rw [e1, e2, Int.toNat_natCast, Int.toNat_natCast]
  exact wsL_brl _
theorem brl_same (e : ∀ i, i ≤ 9 → mI M' (g + i) = mI M (g + i)) : ∀ n, brl M' g x n = brl M g x n
  | 0 => rfl
  | n + 1 => by
    have h := brl_same e n
    show brl M' g x n ++ [((mI M' (g + 8) (x + n)).toNat, mI M' (g + 9) (x + n))] = brl M g x n ++ [((mI M (g + 8) (x + n)).toNat, mI M (g + 9) (x + n))]
    rw [h, e 8 (by decide), e 9 (by decide)]
theorem cmm_same (e : ∀ i, i ≤ 9 → mI M' (g + i) = mI M (g + i)) : cmm M' g c = cmm M g c := by
  unfold cmm
  rw [e 5 (by decide), e 6 (by decide), e 7 (by decide), brl_same e]
theorem cmm_lt (h : cmdG M g cn bc c) : ∀ b, b ∈ (cmm M g c).2.2 → b.1 < cn := by
  obtain ⟨x, y, mu, c1, c2, c3, c4, c5, -⟩ := h
  intro b hb
  have bl : (cmm M g c).2.2 = (List.range (y - x)).map (fun t => ((mI M (g + 8) (x + t)).toNat, mI M (g + 9) (x + t))) := by
    unfold cmm
    rw [c1, c2, Int.toNat_natCast, Int.toNat_natCast, brl_map]
  rw [bl] at hb
  obtain ⟨t, t1, t2⟩ := List.mem_map.mp hb
  have t3 := List.mem_range.mp t1
  have t4 := c5 (x + t) (by omega) (by omega)
  rw [← t2]
  show (mI M (g + 8) (x + t)).toNat < cn
  omega
theorem rwv_mul (h : 0 < nv M (mR M R t + 3)) : (nv M (mR M R t + 1) : Rat) = rwv M R t * (nv M (mR M R t + 3) : Rat) := by
  have e := Rat.inv_mul_cancel _ (ic_ne h)
  unfold rwv
  generalize (nv M (mR M R t + 3) : Rat) = b at *
  generalize (nv M (mR M R t + 1) : Rat) = a at *
  generalize b⁻¹ = c at *
  grind
theorem rwv_cg (eR : mR M' R = mR M R) (e1 : nv M' (mR M R j + 1) = nv M (mR M R j + 1)) (e3 : nv M' (mR M R j + 3) = nv M (mR M R j + 3)) : rwv M' R j = rwv M R j := by
  unfold rwv
  rw [eR, e1, e3]
/-- a fraction crossed -/
theorem rat_cross {A V a b : Int} (hV : 0 < V) (e : a * V = A * b) : (A : Rat) * (V : Rat)⁻¹ * (b : Rat) = (a : Rat) := by
  have e1 : (a : Rat) * (V : Rat) = (A : Rat) * (b : Rat) := by rw [← Rat.intCast_mul, ← Rat.intCast_mul, e]
  have e2 := Rat.mul_inv_cancel _ (ic_ne hV)
  generalize (V : Rat)⁻¹ = i at *
  generalize (V : Rat) = V at *
  generalize (A : Rat) = A at *
  generalize (a : Rat) = a at *
  generalize (b : Rat) = b at *
  have e3 : A * i * b = a * (V * i) := by grind
  rw [e3, e2]
  grind
theorem fq_mul (h : 0 < mI M f 2 * nv M (f + 3)) : fq9 M f * ((mI M f 2 * nv M (f + 3) : Int) : Rat) = (nv M (f + 1) : Rat) := by
  unfold fq9
  exact rat_cross h rfl
/-- a worth on its way -/
def wgV (M0 : mM) (R cn w : Nat) (v : Rat) (M : mM) : Prop := Rle M0 R cn → (nv M (w + 1) : Rat) = v * (nv M (w + 3) : Rat)
theorem wv_skip {Fa V : Int} (h : wgV M0 R cn w v M) (e : Rle M0 R cn → (Fa : Rat) = fv' * (V : Rat)) (hF : Fa = 0) (hV : Rle M0 R cn → 0 < V) : wgV M0 R cn w (v + (sh : Rat) * fv') M := fun q => by
  have e1 := e q
  have e2 := Rat.mul_inv_cancel _ (ic_ne (hV q))
  have e3 : ((0 : Int) : Rat) = 0 := rfl
  rw [hF, e3] at e1
  have e4 : fv' = 0 := by
    generalize (V : Rat)⁻¹ = i at *
    generalize (V : Rat) = V at *
    have e5 : fv' * (V * i) = fv' * V * i := by grind
    rw [e2, ← e1] at e5
    grind
  rw [h q, e4]
  grind
theorem wv_same {Fa : Int} (h : wgV M0 R cn w v M) (e1 : nv M' (w + 1) = nv M (w + 1) + sh * Fa) (e3 : nv M' (w + 3) = nv M (w + 3)) (e : Rle M0 R cn → (Fa : Rat) = fv' * (nv M (w + 3) : Rat)) : wgV M0 R cn w (v + (sh : Rat) * fv') M' := fun q => by
  rw [e1, e3, Rat.intCast_add, Rat.intCast_mul, h q, e q]
  grind
theorem wv_diff {Fa V Q1 Q2 r : Int} (h : wgV M0 R cn w v M) (e1 : nv M' (w + 1) = nv M (w + 1) * Q2 + sh * (Fa * Q1)) (e3 : nv M' (w + 3) = nv M (w + 3) * Q2) (eU : nv M (w + 3) = r * Q1) (eV : V = r * Q2) (e : Rle M0 R cn → (Fa : Rat) = fv' * (V : Rat)) : wgV M0 R cn w (v + (sh : Rat) * fv') M' := fun q => by
  have h1 : (nv M' (w + 1) : Rat) = (nv M (w + 1) : Rat) * (Q2 : Rat) + (sh : Rat) * ((Fa : Rat) * (Q1 : Rat)) := by rw [e1, Rat.intCast_add, Rat.intCast_mul, Rat.intCast_mul, Rat.intCast_mul]
  have h3 : (nv M' (w + 3) : Rat) = (nv M (w + 3) : Rat) * (Q2 : Rat) := by rw [e3, Rat.intCast_mul]
  have hU : (nv M (w + 3) : Rat) = (r : Rat) * (Q1 : Rat) := by rw [eU, Rat.intCast_mul]
  have hV : (V : Rat) = (r : Rat) * (Q2 : Rat) := by rw [eV, Rat.intCast_mul]
  rw [h1, h3, h q, e q, hU, hV]
  grind
/-- a worth that was weighed, as a number -/
def BsV (M0 : mM) (R cn : Nat) (M : mM) (b : Nat) (v : Rat) : Prop := Rle M0 R cn → fq9 M b = v
theorem BsV.cg {b : Nat} (h : BsV M0 R cn M b v) (e1 : nv M' (b + 1) = nv M (b + 1)) (e3 : nv M' (b + 3) = nv M (b + 3)) (e2 : mI M' b = mI M b) : BsV M0 R cn M' b v := fun q => by
  have := h q
  unfold fq9 at this ⊢
  rw [e1, e3, e2]
  exact this
theorem wv_bs {mu : Int} (h : wgV M0 R cn w v M) (hm : 0 < mu) (tt : mI M w 2 = mu) (hU : Rle M0 R cn → 0 < nv M (w + 3)) : BsV M0 R cn M w (v * (mu : Rat)⁻¹) := fun q => by
  have e1 := Rat.mul_inv_cancel _ (ic_ne (hU q))
  have e2 := Rat.mul_inv_cancel _ (ic_ne hm)
  have e3 := Rat.mul_inv_cancel _ (ic_ne (Int.mul_pos hm (hU q)))
  unfold fq9
  rw [tt, h q]
  rw [Rat.intCast_mul] at e3 ⊢
  generalize ((mu : Rat) * (nv M (w + 3) : Rat))⁻¹ = k at *
  generalize (mu : Rat)⁻¹ = i at *
  generalize (nv M (w + 3) : Rat)⁻¹ = l at *
  generalize (nv M (w + 3) : Rat) = U at *
  generalize (mu : Rat) = m at *
  have e4 : v * U * k * (m * i) = v * i * (m * U * k) := by grind
  rw [e2, e3] at e4
  grind
/-- two numbers compared -/
def orR (p q : Rat) (x : Int) : Prop := (x = 0 ∧ p = q) ∨ (x = 1 ∧ q < p) ∨ (x = -1 ∧ p < q)
theorem orQ_mul {a b V x : Int} (hV : 0 < V) (h : orQ a b x) : orQ (a * V) (b * V) x := by
  rcases h with ⟨x0, e⟩ | ⟨x0, e⟩ | ⟨x0, e⟩
  · exact Or.inl ⟨x0, by rw [e]⟩
  · exact Or.inr (Or.inl ⟨x0, Int.mul_lt_mul_of_pos_right e hV⟩)
  · exact Or.inr (Or.inr ⟨x0, Int.mul_lt_mul_of_pos_right e hV⟩)
theorem or_rat {p q : Rat} {A B X Y x : Int} (hX : 0 < X) (hY : 0 < Y) (e1 : p * (X : Rat) = (A : Rat)) (e2 : q * (Y : Rat) = (B : Rat)) (o : orQ (A * Y) (B * X) x) : orR p q x := by
  have q1 : (0 : Rat) < (X : Rat) := Rat.intCast_pos.2 hX
  have q2 : (0 : Rat) < (Y : Rat) := Rat.intCast_pos.2 hY
  have hp := Rat.mul_pos q1 q2
  have c1 : ((A * Y : Int) : Rat) = p * ((X : Rat) * (Y : Rat)) := by rw [Rat.intCast_mul, ← e1]; grind
  have c2 : ((B * X : Int) : Rat) = q * ((X : Rat) * (Y : Rat)) := by rw [Rat.intCast_mul, ← e2]; grind
  clear e1 e2 q1 q2
  generalize (X : Rat) * (Y : Rat) = P at *
  have lt : ∀ {u w : Rat}, u * P < w * P → u < w := fun {u w} h => by
    refine Classical.byContradiction (fun n => ?_)
    have a := Rat.mul_nonneg (a := u - w) (b := P) (by grind) (Rat.le_of_lt hp)
    grind
  rcases o with ⟨x0, e⟩ | ⟨x0, e⟩ | ⟨x0, e⟩
  · refine Or.inl ⟨x0, ?_⟩
    have h' : ((A * Y : Int) : Rat) = ((B * X : Int) : Rat) := by rw [e]
    rw [c1, c2] at h'
    have i := Rat.mul_inv_cancel P (by grind)
    have e' : p * P * P⁻¹ = q * P * P⁻¹ := by rw [h']
    grind
  · refine Or.inr (Or.inl ⟨x0, lt ?_⟩)
    rw [← c1, ← c2]
    exact ic_lt.2 e
  · refine Or.inr (Or.inr ⟨x0, lt ?_⟩)
    rw [← c1, ← c2]
    exact ic_lt.2 e
end WVS
end
section
/-! The Scales: a command is weighed, the whole. -/
section NAW
variable {G : mG} {d b c z n m w S x y B u g a R cn bc i j mu : Nat} {M M0 M' M1 M2 M3 : mM} {L : List Nat} {W : Nat → Nat} {T T' I I' : Nat → Prop} {r r' : Prop} {sh : Int}
theorem wg_bits {v : Int} (h : v < 2 ^ (30 * (S * j)) * 1073741824) : v < 2 ^ (30 * (S * j + 1)) := by rw [p30]; exact h
theorem wg_bits3 {v : Int} (hj : j ≤ 8) (h : v < ((j : Int) + 1) * (2 ^ (30 * (S * j)) * 1152921504606846976)) : v < 2 ^ (30 * (S * j + 3)) := by
  rw [show S * j + 3 = S * j + 1 + 1 + 1 by first | rfl | omega, p30, p30, p30]
  have h1 := p30p (S * j)
  have h2 := Int.mul_le_mul_of_nonneg_right (show (j : Int) + 1 ≤ 1073741824 by omega) (show 0 ≤ 2 ^ (30 * (S * j)) * 1152921504606846976 by omega)
  omega
theorem wg_w {B S j : Nat} (hj : j < 8) (hB : 8 * S + 6 ≤ B) : S * j + 3 + S + 3 ≤ B ∧ S * j + 1 + S + 3 ≤ B := by
  have h1 : S * j + S = S * (j + 1) := by rw [Nat.mul_add, Nat.mul_one]
  have h2 : S * (j + 1) ≤ S * 8 := Nat.mul_le_mul_left _ (by omega)
  omega
theorem wg_ws {n : Nat} (h : ∀ i, x ≤ i → i < x + n → 1 ≤ mI M (g + 9) i) : 0 ≤ wsm M g x n := by
  induction n with
  | zero => exact Int.le_refl _
  | succ n ih =>
    show 0 ≤ wsm M g x n + mI M (g + 9) (x + n)
    have h1 := ih (fun i a b => h i a (by omega))
    have h2 := h (x + n) (by omega) (by omega)
    omega
/-- one branch -/
theorem s_wg_one {Q : mM → Prop} {sm : Int} {t : Nat} (hE : We L W z w g a R cn M) (hI : wgI M0 R cn w S j sm M) (hj : j < 8) (ht : t < cn) (hrs : Rsm M R cn S) (hle : Rle M0 R cn → Rle M R cn) (hW : ∀ x, Twg z w x → B ≤ W x) (b1 : 8 * S + 6 ≤ B) (hB : B ≤ 16000) (hsh : 0 ≤ sh ∧ sh < 1073741824) {v9 f9 : Rat} (hv9 : wgV M0 R cn w v9 M) (hf9 : Rle M0 R cn → (nv M (mR M R t + 1) : Rat) = f9 * (nv M (mR M R t + 3) : Rat))
    (hQ : ∀ M', NL L W (Twg z w) (fun _ => False) False z M M' → wgI M0 R cn w S (j + 1) (sm + sh) M' → wgV M0 R cn w (v9 + (sh : Rat) * f9) M' → Q M') (f : Nat) (ef : mR M R t = f) : mK M f = 11 ∧ mK M (mR M f 0) = 10 ∧ ((mI M (mR M f 0) 1 = 0) → Q M) ∧ (¬ (mI M (mR M f 0) 1 = 0) → (mK M w = 11 ∧ Ci G y_Na_order (d + 4) [vr (mR M w 1), vr (mR M f 1)] M (fun x40 M39 => i32 x40 ∧ mOk M39 ∧ (((x40 = 0) → (mK M39 w = 11 ∧ mK M39 f = 11 ∧ mK M39 (mR M39 w 0) = 10 ∧ Cv G y_Na_add (d + 4) [vr (mR M39 w 0), vr (mR M39 f 0), vi sh] M39 (fun M47 => mOk M47 ∧ Q M47))) ∧ (¬ (x40 = 0) → (mK M39 w = 11 ∧ mK M39 f = 11 ∧ mK M39 z = 9 ∧ Cr G y_Sc_commonDivisor (d + 4) [vr z, vr (mR M39 w 1), vr (mR M39 f 1)] M39 (fun x54 M53 => mOk M53 ∧ (mK M53 z = 9 ∧ mK M53 w = 11 ∧ mK M53 (mR M53 z 7) = 10 ∧ Cv G y_Na_put1 (d + 4) [vr (mR M53 z 7), vr (mR M53 w 1)] M53 (fun M59 => mOk M59 ∧ (mK M59 z = 9 ∧ mK M59 (mR M59 z 7) = 10 ∧ Cv G y_Na_divide (d + 4) [vr (mR M59 z 7), vr x54, vr (mR M59 z 2), vr (mR M59 z 3)] M59 (fun M64 => mOk M64 ∧ (mK M64 z = 9 ∧ mK M64 (mR M64 z 7) = 10 ∧ Cv G y_Na_put1 (d + 4) [vr (mR M64 z 7), vr (mR M64 z 2)] M64 (fun M69 => mOk M69 ∧ (mK M69 z = 9 ∧ mK M69 f = 11 ∧ mK M69 (mR M69 z 8) = 10 ∧ Cv G y_Na_put1 (d + 4) [vr (mR M69 z 8), vr (mR M69 f 1)] M69 (fun M75 => mOk M75 ∧ (mK M75 z = 9 ∧ mK M75 (mR M75 z 8) = 10 ∧ Cv G y_Na_divide (d + 4) [vr (mR M75 z 8), vr x54, vr (mR M75 z 2), vr (mR M75 z 3)] M75 (fun M80 => mOk M80 ∧ (mK M80 z = 9 ∧ mK M80 (mR M80 z 8) = 10 ∧ Cv G y_Na_put1 (d + 4) [vr (mR M80 z 8), vr (mR M80 z 2)] M80 (fun M85 => mOk M85 ∧ (mK M85 z = 9 ∧ mK M85 w = 11 ∧ mK M85 (mR M85 z 5) = 10 ∧ Cv G y_Na_putProduct (d + 4) [vr (mR M85 z 5), vr (mR M85 w 0), vr (mR M85 z 8)] M85 (fun M91 => mOk M91 ∧ (mK M91 w = 11 ∧ mK M91 z = 9 ∧ mK M91 (mR M91 w 0) = 10 ∧ Cv G y_Na_put1 (d + 4) [vr (mR M91 w 0), vr (mR M91 z 5)] M91 (fun M97 => mOk M97 ∧ (mK M97 z = 9 ∧ mK M97 f = 11 ∧ mK M97 (mR M97 z 5) = 10 ∧ Cv G y_Na_putProduct (d + 4) [vr (mR M97 z 5), vr (mR M97 f 0), vr (mR M97 z 7)] M97 (fun M103 => mOk M103 ∧ (mK M103 w = 11 ∧ mK M103 z = 9 ∧ mK M103 (mR M103 w 0) = 10 ∧ Cv G y_Na_add (d + 4) [vr (mR M103 w 0), vr (mR M103 z 5), vi sh] M103 (fun M109 => mOk M109 ∧ (mK M109 z = 9 ∧ mK M109 w = 11 ∧ mK M109 (mR M109 z 5) = 10 ∧ Cv G y_Na_putProduct (d + 4) [vr (mR M109 z 5), vr (mR M109 w 1), vr (mR M109 z 8)] M109 (fun M115 => mOk M115 ∧ (mK M115 w = 11 ∧ mK M115 z = 9 ∧ mK M115 (mR M115 w 1) = 10 ∧ Cv G y_Na_put1 (d + 4) [vr (mR M115 w 1), vr (mR M115 z 5)] M115 (fun M121 => mOk M121 ∧ (Q M121)))))))))))))))))))))))))))))))) := by
  have hw := hE.ws ht
  have dw := hE.2.2.2 t ht
  obtain ⟨rs1, rs2, rs3⟩ := hrs t ht
  have rle : Rle M0 R cn → nv M (f + 1) ≤ nv M (f + 3) ∧ 0 < nv M (f + 3) := fun q => by
    have := hle q t ht
    rw [ef] at this
    exact this
  rw [ef] at hw dw rs1 rs2 rs3 hf9
  obtain ⟨hO, hF, hS, hfw, hff⟩ := id hw
  obtain ⟨⟨k1, k2, k3⟩, -, ⟨w0, w1⟩, ⟨f0, f1⟩, -, -, -, -, -, mw1, mw3, mf1, mf3⟩ := hw.pl
  have A0 := hF.nn0 mw1
  have X0 := hF.nn0 mf1
  obtain ⟨bb1, bb2⟩ := wg_w hj b1
  have hA := wg_bits3 (by omega) hI.2.1
  have hU := wg_bits hI.1.2
  have nw : w + 1 ≠ f + 1 := fun e => dw.2.1 (Or.inr (Or.inr (Or.inr (Or.inr (Or.inl e.symm)))))
  rw [f0, w1, f1, (hF.nt mf1).2.1]
  refine ⟨k3, hF.kd mf1, fun y0 => hQ M (NL.refl hO hF hw.tw noI hS.z9) (wg_skip hI hsh.1 A0) (wv_skip hv9 hf9 ((hF.sz0 mf1).1 (by omega)) (fun q => (rle q).2)), fun _ => ⟨k2, (f_order hO hF mw3 mf3).mono (fun x40 M39 q => ?_)⟩⟩
  obtain ⟨e39, ox⟩ := q
  rw [e39, w0, f0]
  refine ⟨by unfold orQ at ox; exact ⟨by omega, by omega⟩, hO, fun y => ⟨k2, k3, hF.kd mw1, ?_⟩, fun y => ?_⟩
  · have eq : nv M (w + 3) = nv M (f + 3) := by
      rcases ox with u | u | u
      · exact u.2
      · exact absurd y (by rw [u.1]; decide)
      · exact absurd y (by rw [u.1]; decide)
    have sA := hF.szv mw1 hA
    have sF := hF.szv mf1 rs3
    have wW := hW (w + 1) (Or.inr (Or.inr (Or.inr (Or.inr (Or.inl rfl)))))
    refine (f_add (d := d + 1) hsh hO hF mw1 mf1 nw (by omega) (by omega)).mono (fun M47 k => ?_)
    obtain ⟨c, v⟩ := k
    obtain ⟨n1, H1⟩ := hw.st (Or.inr (Or.inr (Or.inr (Or.inr (Or.inl rfl))))) c
    exact ⟨c.ok, hQ M47 n1 (wg_same hI hsh v (c.v hF mw3 (nez (by decide))) ⟨X0, rs3⟩ (fun q => by rw [eq]; exact (rle q).1)) (wv_same hv9 v (c.v hF mw3 (nez (by decide))) (fun q => by rw [eq]; exact hf9 q))⟩
  · have uv : 0 < nv M (w + 3) ∨ 0 < nv M (f + 3) := by
      have n1 := hI.1.1
      unfold orQ at ox
      omega
    refine s_wgDiff (d := d) hw dw hsh uv hA hU rs2 rs3 hW bb1 bb2 hB (fun M' Q1 Q2 r n1 g1 g2 g3 g4 g5 g6 g7 => hQ M' n1 (wg_diff hI A0 hsh g1 g2 g3 g4 g5 ⟨rs1, rs2⟩ g6 g7 ⟨X0, rs3⟩ rle) (wv_diff hv9 g1 g2 g3 g4 hf9))
/-- the loop over the branches -/
theorem s_wg25 (hE0 : We L W z w g a R cn M0) (hrs0 : Rsm M0 R cn S) (hW : ∀ x, Twg z w x → B ≤ W x) (b1 : 8 * S + 6 ≤ B) (hB : B ≤ 16000) (hc : c < 4096) (hcn : cn ≤ 512) (e7 : mI M0 (g + 7) (c + 1) = ((y : Nat) : Int)) (hxy : x ≤ y ∧ y ≤ x + 8 ∧ y ≤ 4096) (hbr : ∀ i, x ≤ i → i < y → 0 ≤ mI M0 (g + 8) i ∧ mI M0 (g + 8) i < cn ∧ 1 ≤ mI M0 (g + 9) i ∧ mI M0 (g + 9) i < 1073741824) {mu : Int} (emu : wsm M0 g x (y - x) = mu) {t0 : Int} {Qw : mM → Prop} (Hm : ∀ M', NL L W (Twg z w) (fun x => x = w) False z M0 M' → mI M' w 2 = t0 → wgI M0 R cn w S (y - x) mu M' → wgV M0 R cn w (wsv M0 R g x (y - x)) M' → Qw M') : ∀ (t i : Nat) (M : mM), y ≤ i + t → x ≤ i → i ≤ y → NL L W (Twg z w) (fun x => x = w) False z M0 M → mI M w 2 = t0 → wgI M0 R cn w S (i - x) (wsm M0 g x (i - x)) M → wgV M0 R cn w (wsv M0 R g x (i - x)) M → h_Sc_weigh_25 G (d + 4) z g c a w i M Qw := by
  intro t
  induction t with
  | zero =>
    intro i M h1 h2 h3 hN ht hI hv9
    obtain ⟨hE, e9, eR, -⟩ := hE0.nl hN
    have ei : i = y := by omega
    subst ei
    rw [emu] at hI
    obtain ⟨-, ⟨⟨g1, ⟨-, -, -, r7, -⟩, k, ⟨-, -, -, n7, -⟩⟩, -⟩, -⟩ := hE
    refine k_Sc_weigh_25 hN.ok ⟨by omega, by omega⟩ ⟨by omega, by omega⟩ ?_
    rw [r7, n7, show Int.toNat ((c : Int) + 1) = c + 1 by first | rfl | omega, e9 7 (by decide), e7]
    exact ⟨g1, k 7 (by decide) (by decide), ⟨by omega, by omega⟩, fun _ => Hm M hN ht hI hv9, fun u => absurd (Int.le_refl _) u⟩
  | succ t ih =>
    intro i M h1 h2 h3 hN ht hI hv9
    by_cases ei : i = y
    · exact ih i M (by omega) h2 h3 hN ht hI hv9
    obtain ⟨hE, e9, eR, vals⟩ := hE0.nl hN
    obtain ⟨b8, b8', b9, b9'⟩ := hbr i h2 (by omega)
    obtain ⟨⟨hO, hF, hS, hfw⟩, ⟨⟨g1, ⟨-, -, -, r7, r8, r9⟩, k, ⟨-, -, -, n7, n8, n9⟩⟩, -⟩, ⟨q1, q2, q3, q4, -⟩, -⟩ := id hE
    obtain ⟨to, eto⟩ : ∃ to : Nat, mI M0 (g + 8) i = ((to : Nat) : Int) := ⟨(mI M0 (g + 8) i).toNat, by omega⟩
    refine k_Sc_weigh_25 hN.ok ⟨by omega, by omega⟩ ⟨by omega, by omega⟩ ?_
    rw [r7, n7, show Int.toNat ((c : Int) + 1) = c + 1 by first | rfl | omega, e9 7 (by decide), e7, r8, n8, q2, r9, n9, Int.toNat_natCast, e9 8 (by decide), e9 9 (by decide), eto, Int.toNat_natCast]
    refine ⟨g1, k 7 (by decide) (by decide), ⟨by omega, by omega⟩, fun u => absurd u (by omega), fun _ => ⟨q1, k 8 (by decide) (by decide), ⟨by omega, by omega⟩, q3, ⟨by omega, by omega⟩, k 9 (by decide) (by decide), ⟨by omega, by omega⟩, ?_⟩⟩
    have hrs : Rsm M R cn S := fun i hi => by
      rw [eR, (vals i hi).1, (vals i hi).2]
      exact hrs0 i hi
    have hle : Rle M0 R cn → Rle M R cn := fun q i hi => by
      rw [eR, (vals i hi).1, (vals i hi).2]
      exact q i hi
    refine s_wg_one (d := d) (Q := fun M' => h_Sc_weigh_291 G (d + 4) z g c a w i M' Qw) hE hI (by omega) (show to < cn by omega) hrs hle hW b1 hB ⟨by omega, b9'⟩ hv9 (f9 := rwv M0 R to) (fun q => by
      rw [eR, (vals to (by omega)).1, (vals to (by omega)).2]
      exact rwv_mul (q to (by omega)).2) (fun M' n1 h1' hv' => ?_) _ rfl
    refine k_Sc_weigh_291 n1.ok ⟨by omega, by omega⟩ ⟨by omega, by omega⟩ ?_
    rw [show ((i : Int) + 1) = ((i + 1 : Nat) : Int) by first | rfl | omega]
    have e1 : i + 1 - x = (i - x) + 1 := by omega
    refine ih (i + 1) M' (by omega) (by omega) (by omega) (hN.trans (n1.mono hF (fun _ e => e) (hE.ws (show to < cn by omega)).tw (fun _ e => e.elim) (hE.ws (show to < cn by omega)).iw (fun e => e))) ?_ ?_ ?_
    · rw [(n1.frp hF hfw.1).2 (fun e => e)]; exact ht
    · rw [e1]
      show wgI M0 R cn w S (i - x + 1) (wsm M0 g x (i - x) + mI M0 (g + 9) (x + (i - x))) M'
      rw [show x + (i - x) = i by first | rfl | omega]
      exact h1'
    · rw [e1]
      show wgV M0 R cn w (wsv M0 R g x (i - x) + (mI M0 (g + 9) (x + (i - x)) : Rat) * rwv M0 R (mI M0 (g + 8) (x + (i - x))).toNat) M'
      rw [show x + (i - x) = i by first | rfl | omega, eto, Int.toNat_natCast]
      exact hv'
theorem wg_end {sm : Int} (hN : NL L W (Twg z w) (fun x => x = w) False z M0 M) (ht : mI M w 2 = sm) (hj : j ≤ 8) (hI : wgI M0 R cn w S j sm M) : wgQ L W z w R cn S sm M0 M := by
  have e : S * j ≤ 8 * S := by rw [Nat.mul_comm 8 S]; exact Nat.mul_le_mul_left _ hj
  refine ⟨hN, ⟨hI.1.1, Int.lt_of_lt_of_le (wg_bits hI.1.2) (p30m (by omega))⟩, Int.lt_of_lt_of_le (wg_bits3 hj hI.2.1) (p30m (by omega)), ht, hI.2.2⟩
/-- a command is weighed -/
theorem f_weighX (hE : We L W z w g a R cn M) (hrs : Rsm M R cn S) (hW : ∀ x, Twg z w x → B ≤ W x) (b1 : 8 * S + 6 ≤ B) (hB : B ≤ 16000) (hc : c < 4096) (hcn : cn ≤ 512) (hbc : bc ≤ 4096) (hcm : cmdG M g cn bc c) : ∃ mu : Nat, (1 ≤ mu ∧ mu < 1000000000) ∧ (cmm M g c).2.1 = ((mu : Nat) : Int) ∧ Cv G y_Sc_weigh (d + 5) [vr z, vr g, vi c, vr a, vr w] M (fun M' => wgQ L W z w R cn S mu M M' ∧ wgV M R cn w (wsL9 (rwv M R) (cmm M g c).2.2) M') := by
  obtain ⟨x, y, mu, h1, h2, ⟨h3, h3'⟩, h4, h5, h6, h7, h8, h9, -⟩ := hcm
  refine ⟨mu, ⟨h7, h8⟩, h6, ?_⟩
  rw [cmm_ws h1 h2]
  obtain ⟨⟨hO, hF, hS, hfw⟩, ⟨hG, hgo⟩, hR, hD⟩ := id hE
  refine k_Sc_weigh hO ⟨by omega, by omega⟩ ⟨hfw.1.1, (f_Fr_put0 (d := d + 3) ⟨by decide, by decide⟩ hO hF hfw hS.z9).mono (fun M2 k => ?_)⟩
  obtain ⟨n0, v1, v3, t2⟩ := k
  have htw : ∀ t, Twg z w t → t ∈ L := by
    intro t ht
    rcases ht with u | u | u | u | u | u
    · exact hS.t4 t u
    · rw [u]; exact hS.2.2.2.2.2.1.2.2.2.2.2.1
    · rw [u]; exact hS.2.2.2.2.2.1.2.2.2.2.2.2.1
    · rw [u]; exact hS.2.2.2.2.2.1.2.2.2.2.2.2.2
    · rw [u]; exact hfw.2.1
    · rw [u]; exact hfw.2.2
  have n2 : NL L W (Twg z w) (fun x => x = w) False z M M2 := n0.mono hF (fun t ht => ht.elim (fun e => Or.inr (Or.inr (Or.inr (Or.inr (Or.inl e))))) (fun e => Or.inr (Or.inr (Or.inr (Or.inr (Or.inr e)))))) htw (fun _ e => e) (fun x e => by rw [e]; exact ⟨hfw.1.2.2, hfw.1.1⟩) (fun e => e)
  obtain ⟨hE2, e9, eR, vals⟩ := hE.nl n2
  obtain ⟨⟨hO2, hF2, hS2, hfw2⟩, ⟨⟨g1, ⟨-, -, r6, r7, -⟩, kk, ⟨-, -, n6, n7, -⟩⟩, hgo2⟩, -⟩ := id hE2
  rw [r6, n6, e9 6 (by decide), Int.toNat_natCast, h6]
  refine ⟨n2.ok, g1, kk 6 (by decide) (by decide), ⟨by omega, by omega⟩, hfw2.1.1, fun M9 e9' => ?_⟩
  obtain ⟨n3, t3, v9⟩ := nl_times (T := Twg z w) (I := fun x => x = w) (r := False) (z := z) n2.ok hF2 hfw2 hS2.z9 ⟨by omega, by omega⟩ e9' htw rfl (fun x e => by rw [e]; exact ⟨hfw2.1.2.2, hfw2.1.1⟩)
  have n9 := n2.trans n3
  obtain ⟨hE9, f9, -, -⟩ := hE.nl n9
  obtain ⟨-, ⟨⟨g1', ⟨-, -, -, r7', -⟩, kk', ⟨-, -, -, n7', -⟩⟩, -⟩, -⟩ := id hE9
  rw [r7', n7', f9 7 (by decide), h1]
  have wl : ∀ i, x ≤ i → i < y → mI M (g + 9) i < 1073741824 := fun i p q => by
    have := wsm_le (M := M) (g := g) (x := x) (n := y - x) (fun i p q => (h5 i p (by omega)).2.2) (y - x) (Nat.le_refl _) i p (by omega)
    rw [h9] at this
    omega
  refine ⟨kk' 7 (by decide) (by decide), ⟨by omega, by omega⟩, ?_⟩
  refine s_wg25 (d := d) (t0 := ((mu : Nat) : Int)) hE hrs hW b1 hB hc hcn h2 ⟨by omega, h3', by omega⟩ (fun i p q => ⟨(h5 i p q).1, (h5 i p q).2.1, (h5 i p q).2.2, wl i p q⟩) h9 (fun M' g2 g3 g4 g5 => ⟨wg_end g2 g3 (by omega) g4, g5⟩) (y - x) x M9 (by omega) (Nat.le_refl _) (by omega) n9 t3 ?_ ?_
  rotate_left
  · rw [Nat.sub_self]
    intro _
    show (nv M9 (w + 1) : Rat) = 0 * (nv M9 (w + 3) : Rat)
    rw [v9 _ hfw.2.1, v1]
    have z0 : ((0 : Int) : Rat) = 0 := rfl
    rw [z0]
    grind
  rw [Nat.sub_self]
  have e0 : (2 : Int) ^ (30 * (S * 0)) = 1 := by rw [Nat.mul_zero]; decide
  refine ⟨⟨by rw [v9 _ hfw.2.2, v3]; decide, by rw [v9 _ hfw.2.2, v3, e0]; decide⟩, by rw [v9 _ hfw.2.1, v1, e0]; decide, fun _ => ?_⟩
  rw [v9 _ hfw.2.1, v1, v9 _ hfw.2.2, v3]
  exact ⟨(by decide : (0 : Int) ≤ 0 * 1), by decide⟩
theorem f_weigh (hE : We L W z w g a R cn M) (hrs : Rsm M R cn S) (hW : ∀ x, Twg z w x → B ≤ W x) (b1 : 8 * S + 6 ≤ B) (hB : B ≤ 16000) (hc : c < 4096) (hcn : cn ≤ 512) (hbc : bc ≤ 4096) (hcm : cmdG M g cn bc c) : ∃ mu : Nat, (1 ≤ mu ∧ mu < 1000000000) ∧ Cv G y_Sc_weigh (d + 5) [vr z, vr g, vi c, vr a, vr w] M (wgQ L W z w R cn S mu M) := by
  obtain ⟨mu, h1, -, h2⟩ := f_weighX (G := G) (d := d) hE hrs hW b1 hB hc hcn hbc hcm
  exact ⟨mu, h1, h2.mono (fun M' q => q.1)⟩
end NAW
end
section
/-! The Scales: two fractions are compared; a fraction is brought to least terms. -/
section NAX
variable {G : mG} {d b c z n m w S x y B u g a R cn f f' s : Nat} {M M0 M' M1 M2 M3 : mM} {L : List Nat} {W : Nat → Nat} {T T' I I' : Nat → Prop} {r r' : Prop} {sh : Int}
def Tor (z x : Nat) : Prop := x = z + 9 ∨ x = z + 11
/-- what comparing works with -/
def Ors (L : List Nat) (W : Nat → Nat) (z f f' : Nat) (M : mM) : Prop := mOk M ∧ NF L W M ∧ SK L M z ∧ FrL L M f ∧ FrL L M f'
theorem Ors.nl (h : Ors L W z f f' M) (k : NL L W (Tor z) (fun _ => False) False z M M') : Ors L W z f f' M' := by
  obtain ⟨h1, h2, h3, h4, h5⟩ := h
  exact ⟨k.ok, k.nf, k.sk h2 h3, k.frl h2 h4, k.frl h2 h5⟩
theorem Ors.tor (h : Ors L W z f f' M) : ∀ t, Tor z t → t ∈ L := fun t ht => by
  have k := h.2.2.1.2.2.2.2.2.1
  rcases ht with e | e
  · rw [e]; exact k.2.2.2.2.1
  · rw [e]; exact k.2.2.2.2.2.1
theorem Ors.st (h : Ors L W z f f' M) (ha : Tor z a) (c : NC L W (fun x => x = a) M M') : NL L W (Tor z) (fun _ => False) False z M M' ∧ Ors L W z f f' M' := by
  have n : NL L W (Tor z) (fun _ => False) False z M M' := (c.nl (I := fun _ => False) (r := False) noI h.2.2.1.z9).mono h.2.1 (fun t ht => by rw [ht]; exact ha) h.tor (fun _ u => u) noI (fun u => u)
  exact ⟨n, h.nl n⟩
theorem Ors.pl (h : Ors L W z f f' M) : (mK M z = 9 ∧ mK M f = 11 ∧ mK M f' = 11) ∧ (mR M z 4 = z + 9 ∧ mR M z 5 = z + 11) ∧ ((mR M f 0 = f + 1 ∧ mR M f 1 = f + 3) ∧ (mR M f' 0 = f' + 1 ∧ mR M f' 1 = f' + 3)) ∧ (z + 9 ∈ L ∧ z + 11 ∈ L ∧ f + 1 ∈ L ∧ f + 3 ∈ L ∧ f' + 1 ∈ L ∧ f' + 3 ∈ L) := by
  obtain ⟨-, -, ⟨k1, ⟨-, -, -, -, k4, k5, -⟩, -, -, -, ⟨-, -, -, -, p1, p2, -⟩, -⟩, ⟨⟨q1, q2, -⟩, q3, q4⟩, ⟨⟨r1, r2, -⟩, r3, r4⟩⟩ := h
  exact ⟨⟨k1.1, q1, r1⟩, ⟨k4, k5⟩, ⟨q2, r2⟩, p1, p2, q3, q4, r3, r4⟩
/-- numbers of at most s limbs, small factors -/
def Osz (M : mM) (f s : Nat) : Prop := sz M (f + 1) ≤ s ∧ sz M (f + 3) ≤ s ∧ (1 ≤ mI M f 2 ∧ mI M f 2 < 1073741824)
theorem mul_sz {v t : Int} (hv : 0 ≤ v ∧ v < 2 ^ (30 * s)) (ht : 1 ≤ t ∧ t < 1073741824) : 0 ≤ t * v ∧ t * v < 2 ^ (30 * (s + 1)) := by
  rw [p30, Int.mul_comm]
  have h1 : v * t ≤ v * 1073741824 := Int.mul_le_mul_of_nonneg_left (by omega) hv.1
  have h2 := Int.mul_nonneg hv.1 (show 0 ≤ t by omega)
  omega
/-- from the two products on -/
theorem s_orEnd (h : Ors L W z f f' M) (t1 : 1 ≤ mI M f' 2 ∧ mI M f' 2 < 1073741824) (t2 : 1 ≤ mI M f 2 ∧ mI M f 2 < 1073741824) (s1 : sz M (z + 9) + 1 ≤ W (z + 9)) (s2 : sz M (z + 11) + 1 ≤ W (z + 11)) : mK M z = 9 ∧ mK M f' = 11 ∧ mK M (mR M z 4) = 10 ∧ Cv G y_Na_multiply (d + 4) [vr (mR M z 4), vi (mI M f' 2)] M (fun M26 => mOk M26 ∧ (mK M26 z = 9 ∧ mK M26 f = 11 ∧ mK M26 (mR M26 z 5) = 10 ∧ Cv G y_Na_multiply (d + 4) [vr (mR M26 z 5), vi (mI M26 f 2)] M26 (fun M32 => mOk M32 ∧ (mK M32 z = 9 ∧ Ci G y_Na_order (d + 4) [vr (mR M32 z 4), vr (mR M32 z 5)] M32 (fun x37 M36 => i32 x37 ∧ mOk M36 ∧ (NL L W (Tor z) (fun _ => False) False z M M36 ∧ (x37 = -1 ∨ x37 = 0 ∨ x37 = 1) ∧ orQ (mI M f' 2 * nv M (z + 9)) (mI M f 2 * nv M (z + 11)) x37)))))) := by
  obtain ⟨⟨k1, k2, k3⟩, ⟨r4, r5⟩, -, m9, m11, mf1, mf3, mg1, mg3⟩ := h.pl
  rw [r4]
  refine ⟨k1, k3, h.2.1.kd m9, (f_multiply (d := d + 2) t1 h.1 h.2.1 m9 s1).mono (fun M26 k => ?_)⟩
  obtain ⟨c1, v1⟩ := k
  obtain ⟨n1, H1⟩ := h.st (Or.inl rfl) c1
  obtain ⟨⟨k1, k2, k3⟩, ⟨r4, r5⟩, -⟩ := H1.pl
  have e2 : mI M26 f = mI M f := (n1.frp h.2.1 h.2.2.2.1.1).2 (fun e => e)
  have z11 := (c1.num h.2.1 m11 (nez (by decide))).2.2.2.1
  have z11v := (c1.num h.2.1 m11 (nez (by decide))).2.2.2.2.1
  rw [r5, e2]
  refine ⟨H1.1, k1, k2, H1.2.1.kd m11, (f_multiply (d := d + 2) t2 H1.1 H1.2.1 m11 (by rw [z11]; exact s2)).mono (fun M32 k => ?_)⟩
  obtain ⟨c2, v2⟩ := k
  obtain ⟨n2, H2⟩ := H1.st (Or.inr rfl) c2
  obtain ⟨⟨k1, k2, k3⟩, ⟨r4, r5⟩, -⟩ := H2.pl
  rw [r4, r5]
  refine ⟨H2.1, k1, (f_order (d := d + 4) H2.1 H2.2.1 m9 m11).mono (fun x M36 k => ?_)⟩
  obtain ⟨e, ox⟩ := k
  rw [e]
  have xx : x = -1 ∨ x = 0 ∨ x = 1 := by unfold orQ at ox; omega
  rw [c2.v H1.2.1 m9 (nez (by decide)), v1, v2, z11v] at ox
  exact ⟨by rcases xx with e | e | e <;> rw [e] <;> exact ⟨by decide, by decide⟩, H2.1, n1.trans n2, xx, ox⟩
/-- two fractions are compared -/
theorem f_Sc_orderX (h : Ors L W z f f' M) (o1 : Osz M f s) (o2 : Osz M f' s) (nf : ¬ Tor z (f + 1) ∧ ¬ Tor z (f + 3)) (nf' : ¬ Tor z (f' + 1) ∧ ¬ Tor z (f' + 3)) (w9 : 2 * s + 1 ≤ W (z + 9)) (w11 : 2 * s + 1 ≤ W (z + 11)) : Ci G y_Sc_order (d + 5) [vr z, vr f, vr f'] M (fun x M' => NL L W (Tor z) (fun _ => False) False z M M' ∧ (x = -1 ∨ x = 0 ∨ x = 1) ∧ (0 < nv M (f + 3) → 0 < nv M (f' + 3) → orR (fq9 M f) (fq9 M f') x)) := by
  obtain ⟨⟨k1, k2, k3⟩, ⟨r4, r5⟩, ⟨⟨f0, f1⟩, g0, g1⟩, m9, m11, mf1, mf3, mg1, mg3⟩ := h.pl
  obtain ⟨a1, a2, a3⟩ := o1
  obtain ⟨b1, b2, b3⟩ := o2
  have e9f1 : z + 9 ≠ f + 1 := fun e => nf.1 (Or.inl e.symm)
  have e11f3 : z + 11 ≠ f + 3 := fun e => nf.2 (Or.inr e.symm)
  have e9g3 : z + 9 ≠ f' + 3 := fun e => nf'.2 (Or.inl e.symm)
  have e11g1 : z + 11 ≠ f' + 1 := fun e => nf'.1 (Or.inr e.symm)
  have hF := h.2.1
  have fin : ∀ {x : Int}, orQ (nv M (f + 1) * (mI M f' 2 * nv M (f' + 3))) (nv M (f' + 1) * (mI M f 2 * nv M (f + 3))) x → 0 < nv M (f + 3) → 0 < nv M (f' + 3) → orR (fq9 M f) (fq9 M f') x := fun o d1 d2 => by
    have p1 := Int.mul_pos (show 0 < mI M f 2 by omega) d1
    have p2 := Int.mul_pos (show 0 < mI M f' 2 by omega) d2
    exact or_rat p1 p2 (fq_mul p1) (fq_mul p2) o
  refine k_Sc_order h.1 ?_
  rw [f1, g1]
  refine ⟨k2, k3, (f_order (d := d + 4) h.1 hF mf3 mg3).mono (fun x4 M3 k => ?_)⟩
  obtain ⟨e3, ox⟩ := k
  rw [e3, r4]
  refine ⟨by unfold orQ at ox; exact ⟨by omega, by omega⟩, h.1, fun x0 => ⟨k1, k2, hF.kd m9, ?_⟩, fun _ => ⟨k1, k2, k3, hF.kd m9, ?_⟩⟩
  · rw [f0]
    refine (f_put1 (d := d + 3) h.1 hF m9 mf1 e9f1 (by omega)).mono (fun M14 k => ?_)
    obtain ⟨c1, v1⟩ := k
    obtain ⟨n1, H1⟩ := h.st (Or.inl rfl) c1
    obtain ⟨⟨k1, k2, k3⟩, ⟨r4, r5⟩, ⟨⟨f0, f1⟩, g0, g1⟩, -⟩ := H1.pl
    have s9 : sz M14 (z + 9) ≤ s := H1.2.1.szv m9 (by rw [v1]; exact Int.lt_of_lt_of_le (hF.vlt mf1) (p30m a1))
    have sg := (n1.num hF mg1 nf'.1).2
    rw [r5, g0]
    refine ⟨H1.1, k1, k3, H1.2.1.kd m11, (f_put1 (d := d + 3) H1.1 H1.2.1 m11 mg1 e11g1 (by omega)).mono (fun M20 k => ?_)⟩
    obtain ⟨c2, v2⟩ := k
    obtain ⟨n2, H2⟩ := H1.st (Or.inr rfl) c2
    have N2 := n1.trans n2
    have s11 : sz M20 (z + 11) ≤ s := H2.2.1.szv m11 (by rw [v2, sg.2]; exact Int.lt_of_lt_of_le (hF.vlt mg1) (p30m b1))
    have s9' := (c2.num H1.2.1 m9 (nez (by decide))).2.2.2.1
    have ef := (N2.frp hF h.2.2.2.1.1).2 (fun e => e)
    have eg := (N2.frp hF h.2.2.2.2.1).2 (fun e => e)
    obtain ⟨q1, q2, q3, q4⟩ := s_orEnd (G := G) (d := d) H2 (by rw [eg]; exact b3) (by rw [ef]; exact a3) (by omega) (by omega)
    exact ⟨H2.1, q1, q2, q3, q4.mono (fun M26 ⟨p1, p2, p3, p4, p5⟩ => ⟨p1, p2, p3, p4, p5.mono (fun M32 ⟨p6, p7, p8⟩ => ⟨p6, p7, p8.mono (fun x M36 ⟨p9, p10, p11, p12, p13⟩ => ⟨p9, p10, N2.trans p11, p12, fun d1 d2 => fin (by
      have ed : nv M (f' + 3) = nv M (f + 3) := by
        unfold orQ at ox
        omega
      rw [eg, ef, v2, sg.2, c2.v H1.2.1 m9 (nez (by decide)), v1] at p13
      have o := orQ_mul d1 p13
      rw [ed]
      rw [show nv M (f + 1) * (mI M f' 2 * nv M (f + 3)) = mI M f' 2 * nv M (f + 1) * nv M (f + 3) by grind, show nv M (f' + 1) * (mI M f 2 * nv M (f + 3)) = mI M f 2 * nv M (f' + 1) * nv M (f + 3) by grind]
      exact o) d1 d2⟩)⟩)⟩)⟩
  · rw [f0, g1]
    refine (f_putProduct (d := d + 1) h.1 hF m9 mf1 mg3 e9f1 e9g3 (by omega)).mono (fun M14 k => ?_)
    obtain ⟨c1, v1⟩ := k
    obtain ⟨n1, H1⟩ := h.st (Or.inl rfl) c1
    obtain ⟨⟨k1, k2, k3⟩, ⟨r4, r5⟩, ⟨⟨f0, f1⟩, g0, g1⟩, -⟩ := H1.pl
    have s9 : sz M14 (z + 9) ≤ s + s := H1.2.1.szv m9 (by rw [v1]; exact pb ⟨hF.nn0 mf1, Int.lt_of_lt_of_le (hF.vlt mf1) (p30m a1)⟩ ⟨hF.nn0 mg3, Int.lt_of_lt_of_le (hF.vlt mg3) (p30m b2)⟩)
    have sg := (n1.num hF mg1 nf'.1).2
    have sf := (n1.num hF mf3 nf.2).2
    rw [r5, g0, f1]
    refine ⟨H1.1, k1, k3, k2, H1.2.1.kd m11, (f_putProduct (d := d + 1) H1.1 H1.2.1 m11 mg1 mf3 e11g1 e11f3 (by omega)).mono (fun M20 k => ?_)⟩
    obtain ⟨c2, v2⟩ := k
    obtain ⟨n2, H2⟩ := H1.st (Or.inr rfl) c2
    have N2 := n1.trans n2
    have s11 : sz M20 (z + 11) ≤ s + s := H2.2.1.szv m11 (by rw [v2, sg.2, sf.2]; exact pb ⟨hF.nn0 mg1, Int.lt_of_lt_of_le (hF.vlt mg1) (p30m b1)⟩ ⟨hF.nn0 mf3, Int.lt_of_lt_of_le (hF.vlt mf3) (p30m a2)⟩)
    have s9' := (c2.num H1.2.1 m9 (nez (by decide))).2.2.2.1
    have ef := (N2.frp hF h.2.2.2.1.1).2 (fun e => e)
    have eg := (N2.frp hF h.2.2.2.2.1).2 (fun e => e)
    obtain ⟨q1, q2, q3, q4⟩ := s_orEnd (G := G) (d := d) H2 (by rw [eg]; exact b3) (by rw [ef]; exact a3) (by omega) (by omega)
    exact ⟨H2.1, q1, q2, q3, q4.mono (fun M26 ⟨p1, p2, p3, p4, p5⟩ => ⟨p1, p2, p3, p4, p5.mono (fun M32 ⟨p6, p7, p8⟩ => ⟨p6, p7, p8.mono (fun x M36 ⟨p9, p10, p11, p12, p13⟩ => ⟨p9, p10, N2.trans p11, p12, fun d1 d2 => fin (by
      rw [eg, ef, v2, sg.2, sf.2, c2.v H1.2.1 m9 (nez (by decide)), v1] at p13
      rw [show nv M (f + 1) * (mI M f' 2 * nv M (f' + 3)) = mI M f' 2 * (nv M (f + 1) * nv M (f' + 3)) by grind, show nv M (f' + 1) * (mI M f 2 * nv M (f + 3)) = mI M f 2 * (nv M (f' + 1) * nv M (f + 3)) by grind]
      exact p13) d1 d2⟩)⟩)⟩)⟩
theorem f_Sc_order (h : Ors L W z f f' M) (o1 : Osz M f s) (o2 : Osz M f' s) (nf : ¬ Tor z (f + 1) ∧ ¬ Tor z (f + 3)) (nf' : ¬ Tor z (f' + 1) ∧ ¬ Tor z (f' + 3)) (w9 : 2 * s + 1 ≤ W (z + 9)) (w11 : 2 * s + 1 ≤ W (z + 11)) : Ci G y_Sc_order (d + 5) [vr z, vr f, vr f'] M (fun x M' => NL L W (Tor z) (fun _ => False) False z M M' ∧ (x = -1 ∨ x = 0 ∨ x = 1)) := (f_Sc_orderX h o1 o2 nf nf' w9 w11).mono (fun x M' k => ⟨k.1, k.2.1⟩)
end NAX
end
section
/-! The Scales: least terms, fitting, whole parts. -/
section NAY
variable {G : mG} {d b c z n m w S x y B u g a R cn f s : Nat} {M M0 M' M1 M2 M3 : mM} {L : List Nat} {W : Nat → Nat} {T T' I I' : Nat → Prop} {sh t : Int}
def Tre (z f x : Nat) : Prop := T4 z x ∨ x = f + 1 ∨ x = f + 3
def Rds (L : List Nat) (W : Nat → Nat) (z f : Nat) (M : mM) : Prop := mOk M ∧ NF L W M ∧ SK L M z ∧ FrL L M f
theorem Rds.tre (h : Rds L W z f M) : ∀ t, Tre z f t → t ∈ L := fun t ht => by
  rcases ht with e | e | e
  · exact h.2.2.1.t4 t e
  · rw [e]; exact h.2.2.2.2.1
  · rw [e]; exact h.2.2.2.2.2
theorem Rds.iw (h : Rds L W z f M) : ∀ x, (fun x => x = f) x → x < mZ M ∧ mK M x = 11 := fun x u => by
  rw [u]
  exact ⟨h.2.2.2.1.2.2, h.2.2.2.1.1⟩
theorem Rds.nl (h : Rds L W z f M) (k : NL L W (Tre z f) (fun x => x = f) False z M M') : Rds L W z f M' := ⟨k.ok, k.nf, k.sk h.2.1 h.2.2.1, k.frl h.2.1 h.2.2.2⟩
theorem Rds.st (h : Rds L W z f M) (ha : Tre z f a) (c : NC L W (fun x => x = a) M M') : NL L W (Tre z f) (fun x => x = f) False z M M' ∧ Rds L W z f M' := by
  have n : NL L W (Tre z f) (fun x => x = f) False z M M' := (c.nl (I := fun x => x = f) (r := False) h.iw h.2.2.1.z9).mono h.2.1 (fun t ht => by rw [ht]; exact ha) h.tre (fun _ u => u) h.iw (fun u => u)
  exact ⟨n, h.nl n⟩
theorem Rds.st3 (h : Rds L W z f M) (ha : Tre z f a ∧ Tre z f b ∧ Tre z f c) (k : NC L W (fun x => x = a ∨ x = b ∨ x = c) M M') : NL L W (Tre z f) (fun x => x = f) False z M M' ∧ Rds L W z f M' := by
  have n : NL L W (Tre z f) (fun x => x = f) False z M M' := (k.nl (I := fun x => x = f) (r := False) h.iw h.2.2.1.z9).mono h.2.1 (fun t ht => by
    rcases ht with u | u | u
    · rw [u]; exact ha.1
    · rw [u]; exact ha.2.1
    · rw [u]; exact ha.2.2) h.tre (fun _ u => u) h.iw (fun u => u)
  exact ⟨n, h.nl n⟩
theorem Rds.pl (h : Rds L W z f M) : (mK M z = 9 ∧ mK M f = 11) ∧ (mR M z 2 = z + 5 ∧ mR M z 3 = z + 7) ∧ (mR M f 0 = f + 1 ∧ mR M f 1 = f + 3) ∧ (z + 5 ∈ L ∧ z + 7 ∈ L ∧ f + 1 ∈ L ∧ f + 3 ∈ L) := by
  obtain ⟨-, -, ⟨k1, ⟨-, -, k2, k3, -⟩, -, -, -, ⟨-, -, p1, p2, -⟩, -⟩, ⟨⟨q1, q2, -⟩, q3, q4⟩⟩ := h
  exact ⟨⟨k1.1, q1⟩, ⟨k2, k3⟩, q2, p1, p2, q3, q4⟩
/-- both numbers are divided -/
theorem s_rdDiv {Q : mM → Prop} {r : Nat} {A V q : Int} (h : Rds L W z f M) (er : r = z + 1 ∨ r = z + 3) (nf : ¬ T4 z (f + 1) ∧ ¬ T4 z (f + 3)) (hA : nv M (f + 1) = A) (hV : nv M (f + 3) = V) (hq : nv M r = q) (q0 : 0 < q) (d1 : q ∣ A) (d2 : q ∣ V) (A0 : 0 < A) (s1 : sz M (f + 1) + 2 ≤ s) (s2 : sz M (f + 3) + 2 ≤ s) (w1 : s ≤ W (f + 1)) (w3 : s ≤ W (f + 3)) (w5 : s ≤ W (z + 5)) (w7 : s ≤ W (z + 7))
    (hQ : ∀ M' Q1 Q2, NL L W (Tre z f) (fun x => x = f) False z M M' → mI M' f 2 = mI M f 2 → nv M' (f + 1) = Q1 → nv M' (f + 3) = Q2 → A = q * Q1 → V = q * Q2 → 0 ≤ Q1 → 0 ≤ Q2 → Q M') : mK M f = 11 ∧ mK M z = 9 ∧ mK M (mR M f 0) = 10 ∧ Cv G y_Na_divide (d + 4) [vr (mR M f 0), vr r, vr (mR M z 2), vr (mR M z 3)] M (fun M32 => mOk M32 ∧ (mK M32 f = 11 ∧ mK M32 z = 9 ∧ mK M32 (mR M32 f 0) = 10 ∧ Cv G y_Na_put1 (d + 4) [vr (mR M32 f 0), vr (mR M32 z 2)] M32 (fun M38 => mOk M38 ∧ (mK M38 f = 11 ∧ mK M38 z = 9 ∧ mK M38 (mR M38 f 1) = 10 ∧ Cv G y_Na_divide (d + 4) [vr (mR M38 f 1), vr r, vr (mR M38 z 2), vr (mR M38 z 3)] M38 (fun M44 => mOk M44 ∧ (mK M44 f = 11 ∧ mK M44 z = 9 ∧ mK M44 (mR M44 f 1) = 10 ∧ Cv G y_Na_put1 (d + 4) [vr (mR M44 f 1), vr (mR M44 z 2)] M44 (fun M50 => mOk M50 ∧ (Q M50)))))))) := by
  obtain ⟨⟨k1, k2⟩, ⟨r2, r3⟩, ⟨f0, f1⟩, m5, m7, mf1, mf3⟩ := h.pl
  obtain ⟨⟨rn5, rn7, -, -⟩, -⟩ := r_n er
  have tr : T4 z r := er.elim Or.inl (fun e => Or.inr (Or.inl e))
  have mr : r ∈ L := h.2.2.1.t4 r tr
  have rf1 : r ≠ f + 1 := fun e => nf.1 (by rw [← e]; exact tr)
  have rf3 : r ≠ f + 3 := fun e => nf.2 (by rw [← e]; exact tr)
  have t5 : Tre z f (z + 5) := Or.inl (Or.inr (Or.inr (Or.inl rfl)))
  have t7 : Tre z f (z + 7) := Or.inl (Or.inr (Or.inr (Or.inr rfl)))
  have f15 : f + 1 ≠ z + 5 := fun e => nf.1 (Or.inr (Or.inr (Or.inl e)))
  have f17 : f + 1 ≠ z + 7 := fun e => nf.1 (Or.inr (Or.inr (Or.inr e)))
  have f35 : f + 3 ≠ z + 5 := fun e => nf.2 (Or.inr (Or.inr (Or.inl e)))
  have f37 : f + 3 ≠ z + 7 := fun e => nf.2 (Or.inr (Or.inr (Or.inr e)))
  have f13 : f + 3 ≠ f + 1 := nez (by decide)
  have hF := h.2.1
  have qV := Int.le_of_dvd A0 d1
  have sr : sz M r ≤ sz M (f + 1) := hF.szm hF mr mf1 (by rw [hq, hA]; exact qV)
  rw [f0, r2, r3]
  refine ⟨k2, k1, hF.kd mf1, (f_divide (d := d + 1) h.1 hF mf1 mr m5 m7 (fun e => rf1 e.symm) f15 f17 rn5 rn7 (nez (by decide)) (by rw [hq]; exact q0) (by omega) (by omega) (by omega)).mono (fun M32 g => ?_)⟩
  obtain ⟨c1, v1, l1⟩ := g
  obtain ⟨n1, H1⟩ := h.st3 ⟨Or.inr (Or.inl rfl), t5, t7⟩ c1
  have F1 := H1.2.1
  rw [hA, hq] at v1
  rw [hq] at l1
  have Q1n := F1.nn0 m5
  have EA := dv_ex q0 d1 v1 ⟨F1.nn0 mf1, l1⟩
  have R1 := ((c1.num hF mr (fun e => e.elim rf1 (fun e => e.elim rn5 rn7))).2.2.2.2.1).trans hq
  have N3 := (c1.num hF mf3 (fun e => e.elim f13 (fun e => e.elim f35 f37))).2.2.2
  have sq1 : sz M32 (z + 5) ≤ sz M (f + 1) := F1.szm hF m5 mf1 (by
    rw [hA, EA]
    have := Int.mul_le_mul_of_nonneg_right (show 1 ≤ q by omega) Q1n
    omega)
  obtain ⟨⟨k1, k2⟩, ⟨r2, r3⟩, ⟨f0, f1⟩, -⟩ := H1.pl
  rw [f0, r2]
  refine ⟨H1.1, k2, k1, F1.kd mf1, (f_put1 (d := d + 3) H1.1 F1 mf1 m5 f15 (by omega)).mono (fun M38 g => ?_)⟩
  obtain ⟨c2, v2⟩ := g
  obtain ⟨n2, H2⟩ := H1.st (Or.inr (Or.inl rfl)) c2
  have F2 := H2.2.1
  have R2 := (c2.v F1 mr rf1).trans R1
  have V2 := (c2.num F1 mf3 f13).2.2.2
  have V2' := (V2.2.1.trans N3.2.1).trans hV
  have sr2 : sz M38 r ≤ sz M (f + 1) := F2.szm hF mr mf1 (by rw [R2, hA]; exact qV)
  obtain ⟨⟨k1, k2⟩, ⟨r2, r3⟩, ⟨f0, f1⟩, -⟩ := H2.pl
  rw [f1, r2, r3]
  refine ⟨H2.1, k2, k1, F2.kd mf3, (f_divide (d := d + 1) H2.1 F2 mf3 mr m5 m7 (fun e => rf3 e.symm) f35 f37 rn5 rn7 (nez (by decide)) (by rw [R2]; exact q0) (by omega) (by omega) (by omega)).mono (fun M44 g => ?_)⟩
  obtain ⟨c3, v3, l3⟩ := g
  obtain ⟨n3, H3⟩ := H2.st3 ⟨Or.inr (Or.inr rfl), t5, t7⟩ c3
  have F3 := H3.2.1
  rw [V2', R2] at v3
  rw [R2] at l3
  have Q2n := F3.nn0 m5
  have EV := dv_ex q0 d2 v3 ⟨F3.nn0 mf3, l3⟩
  have A3 := ((c3.num F2 mf1 (fun e => e.elim (fun e => f13 e.symm) (fun e => e.elim f15 f17))).2.2.2.2.1).trans v2
  have sq2 : sz M44 (z + 5) ≤ sz M38 (f + 3) := F3.szm F2 m5 mf3 (by
    rw [V2', EV]
    have := Int.mul_le_mul_of_nonneg_right (show 1 ≤ q by omega) Q2n
    omega)
  obtain ⟨⟨k1, k2⟩, ⟨r2, r3⟩, ⟨f0, f1⟩, -⟩ := H3.pl
  rw [f1, r2]
  refine ⟨H3.1, k2, k1, F3.kd mf3, (f_put1 (d := d + 3) H3.1 F3 mf3 m5 f35 (by omega)).mono (fun M50 g => ?_)⟩
  obtain ⟨c4, v4⟩ := g
  obtain ⟨n4, H4⟩ := H3.st (Or.inr (Or.inr rfl)) c4
  have ti : ∀ {M M' : mM} {T : Nat → Prop}, FrL L M f → NF L W M → z < mZ M ∧ mK M z = 9 → NC L W T M M' → mI M' f = mI M f := fun hf hF hz c => ((c.nl (I := fun _ => False) (r := False) noI hz).frp hF hf.1).2 (fun e => e)
  refine ⟨H4.1, hQ M50 (nv M32 (z + 5)) (nv M44 (z + 5)) (((n1.trans n2).trans n3).trans n4) ?_ ((c4.v F3 mf1 (fun e => f13 e.symm)).trans A3) v4 EA EV Q1n Q2n⟩
  rw [ti H3.2.2.2 F3 H3.2.2.1.z9 c4, ti H2.2.2.2 F2 H2.2.2.1.z9 c3, ti H1.2.2.2 F1 H1.2.2.1.z9 c2, ti h.2.2.2 hF h.2.2.1.z9 c1]
/-- what least terms leave behind -/
def rdQ2 (L : List Nat) (W : Nat → Nat) (z f : Nat) (t A V : Int) (M M' : mM) : Prop := NL L W (Tre z f) (fun x => x = f) False z M M' ∧ mI M' f 2 = 1 ∧ (0 < V → 0 < nv M' (f + 3)) ∧ nv M' (f + 1) ≤ A ∧ (0 < V → nv M' (f + 3) ≤ t * V) ∧ (A ≤ t * V → nv M' (f + 1) ≤ nv M' (f + 3)) ∧ (nv M' (f + 1) * (t * V) = A * nv M' (f + 3) ∧ (0 < V → Int.gcd (nv M' (f + 1)) (nv M' (f + 3)) = 1))
/-- what is left over when the greatest divisor is gone -/
theorem gcd_left {A V q Q1 Q2 : Int} (q0 : 0 < q) (e1 : A = q * Q1) (e2 : V = q * Q2) (gr : ∀ g : Int, g ∣ A → g ∣ V → g ∣ q) : Int.gcd Q1 Q2 = 1 := by
  have d1 : q * (Int.gcd Q1 Q2 : Int) ∣ A := by rw [e1]; exact Int.mul_dvd_mul (Int.dvd_refl q) (Int.gcd_dvd_left ..)
  have d2 : q * (Int.gcd Q1 Q2 : Int) ∣ V := by rw [e2]; exact Int.mul_dvd_mul (Int.dvd_refl q) (Int.gcd_dvd_right ..)
  obtain ⟨c, hc⟩ := gr _ d1 d2
  have h1 : q * 1 = q * ((Int.gcd Q1 Q2 : Int) * c) := by rw [Int.mul_one, ← Int.mul_assoc]; exact hc
  have h2 : 1 = (Int.gcd Q1 Q2 : Int) * c := Int.eq_of_mul_eq_mul_left (by omega) h1
  have h3 : (Int.gcd Q1 Q2 : Int) ∣ 1 := ⟨c, h2⟩
  have h4 := Int.le_of_dvd (by decide) h3
  have h5 : (Int.gcd Q1 Q2 : Int) ≠ 0 := fun z => by rw [z, Int.zero_mul] at h2; exact absurd h2 (by decide)
  omega
theorem f_reduce (h : Rds L W z f M) (nf : ¬ T4 z (f + 1) ∧ ¬ T4 z (f + 3)) (ht : mI M f 2 = t) (t1 : 1 ≤ t ∧ t < 1073741824) (s1 : sz M (f + 1) ≤ s) (s3 : sz M (f + 3) ≤ s) (hs : s ≤ 15000) (hW : ∀ x, Tre z f x → s + 3 ≤ W x) : Cv G y_Sc_reduce (d + 5) [vr z, vr f] M (rdQ2 L W z f t (nv M (f + 1)) (nv M (f + 3)) M) := by
  obtain ⟨⟨k1, k2⟩, ⟨r2, r3⟩, ⟨f0, f1⟩, m5, m7, mf1, mf3⟩ := h.pl
  have hF := h.2.1
  have w1 := hW _ (Or.inr (Or.inl rfl))
  have w3 := hW _ (Or.inr (Or.inr rfl))
  have f13 : f + 3 ≠ f + 1 := nez (by decide)
  have A0 := hF.nn0 mf1
  refine k_Sc_reduce h.1 ?_
  rw [f1, ht]
  refine ⟨k2, hF.kd mf3, (f_multiply (d := d + 2) t1 h.1 hF mf3 (by omega)).mono (fun M3 k => ?_)⟩
  obtain ⟨c1, v1⟩ := k
  obtain ⟨n1, H1⟩ := h.st (Or.inr (Or.inr rfl)) c1
  have a1 := (c1.num hF mf1 (fun e => f13 e.symm)).2.2.2
  refine ⟨c1.ok, H1.2.2.2.1.1, fun M7 e7 => ?_⟩
  obtain ⟨n2, t2, vv⟩ := nl_times (T := Tre z f) (I := fun x => x = f) (r := False) (z := z) c1.ok H1.2.1 H1.2.2.2 H1.2.2.1.z9 ⟨by decide, by decide⟩ e7 h.tre rfl H1.iw
  have H2 := H1.nl n2
  have N2 := n1.trans n2
  have F2 := H2.2.1
  have A2 : nv M7 (f + 1) = nv M (f + 1) := by rw [vv _ mf1, a1.2.1]
  have V2 : nv M7 (f + 3) = t * nv M (f + 3) := by rw [vv _ mf3, v1]
  have Vn := hF.nn0 mf3
  have Vp : 0 < nv M (f + 3) → 0 < t * nv M (f + 3) := fun V0 => Int.mul_pos (by omega) V0
  obtain ⟨⟨k1, k2⟩, ⟨r2, r3⟩, ⟨f0, f1⟩, -⟩ := H2.pl
  rw [f0, f1, (F2.nt mf1).2.1]
  refine ⟨F2.kd mf1, fun y => ⟨F2.kd mf3, (f_put0 (d := d + 4) ⟨by decide, by decide⟩ H2.1 F2 mf3).mono (fun M13 k => ?_)⟩, fun y => ⟨k1, ?_⟩⟩
  · obtain ⟨c3, v3⟩ := k
    obtain ⟨n3, H3⟩ := H2.st (Or.inr (Or.inr rfl)) c3
    have z0 : nv M7 (f + 1) = 0 := (F2.sz0 mf1).1 (by omega)
    have z1 := (c3.v F2 mf1 (fun e => f13 e.symm)).trans z0
    have ti : mI M13 f = mI M7 f := ((c3.nl (I := fun _ => False) (r := False) noI H2.2.2.1.z9).frp F2 H2.2.2.2.1).2 (fun e => e)
    exact ⟨c3.ok, N2.trans n3, by rw [ti]; exact t2, fun _ => by rw [v3]; decide, by rw [z1]; exact A0, fun V0 => by rw [v3]; exact Vp V0, fun _ => by rw [z1, v3]; decide, by rw [z1, ← A2, z0, Int.zero_mul, Int.zero_mul], fun _ => by rw [z1, v3]; decide⟩
  · have Ap : 0 < nv M (f + 1) := Classical.byContradiction (fun u => y (by
      have := (F2.sz0 mf1).2 (by rw [A2]; omega)
      omega))
    have sv : sz M7 (f + 3) ≤ s + 1 := F2.szv mf3 (by rw [V2]; exact (mul_sz ⟨Vn, Int.lt_of_lt_of_le (hF.vlt mf3) (p30m s3)⟩ t1).2)
    have sa : sz M7 (f + 1) ≤ s := F2.szv mf1 (by rw [A2]; exact Int.lt_of_lt_of_le (hF.vlt mf1) (p30m s1))
    have h1 := hW (z + 1) (Or.inl (Or.inl rfl))
    have h3 := hW (z + 3) (Or.inl (Or.inr (Or.inl rfl)))
    have h5 := hW (z + 5) (Or.inl (Or.inr (Or.inr (Or.inl rfl))))
    have h7 := hW (z + 7) (Or.inl (Or.inr (Or.inr (Or.inr rfl))))
    refine (f_common (d := d) (S := s + 1) H2.1 F2 H2.2.2.1 mf1 mf3 nf.1 nf.2 (Or.inl (by rw [A2]; exact Ap)) (by omega) sv (by omega) ⟨h1, h3, h5, h7⟩).mono (fun r M17 k => ?_)
    obtain ⟨er, N17, q0, d1, d2, gr⟩ := k
    have n3 : NL L W (Tre z f) (fun x => x = f) False z M7 M17 := N17.mono F2 (fun t ht => Or.inl ht) h.tre (fun _ e => e.elim) H2.iw (fun e => e)
    have H3 := H2.nl n3
    have A3 := (N17.num F2 mf1 nf.1).2
    have V3 := (N17.num F2 mf3 nf.2).2
    have t3 : mI M17 f 2 = 1 := by rw [(N17.frp F2 H2.2.2.2.1).2 (fun e => e)]; exact t2
    have mr : r ∈ L := h.2.2.1.t4 r (er.elim Or.inl (fun e => Or.inr (Or.inl e)))
    rw [A2] at A3 d1
    rw [V2] at V3 d2
    rw [A2, V2] at gr
    refine ⟨H3.1, H3.2.1.kd mr, (s_Na_isOne (d := d + 4) H3.1 (H3.2.1.nt mr)).mono (fun x22 M21 k => ?_)⟩
    obtain ⟨e21, x01, x1v⟩ := k
    rw [e21]
    refine ⟨m_b32 x01, H3.1, fun _ => ?_, fun x1 => ?_⟩
    · exact s_rdDiv (d := d) (s := s + 3) H3 er nf A3.2 V3.2 rfl q0 d1 d2 Ap (by omega) (by omega) w1 w3 h5 h7 (fun M' Q1 Q2 g1 g2 g3 g4 g5 g6 g7 g8 => by
        have hq : 1 ≤ nv M17 r := q0
        have m1 := Int.mul_le_mul_of_nonneg_right hq g7
        have m2 := Int.mul_le_mul_of_nonneg_right hq g8
        have Q2p : 0 < nv M (f + 3) → 0 < Q2 := fun V0 => Classical.byContradiction (fun u => by
          have V1 := Vp V0
          have : Q2 = 0 := by omega
          rw [this, Int.mul_zero] at g6
          omega)
        refine ⟨(N2.trans n3).trans g1, by rw [g2]; exact t3, fun V0 => by rw [g4]; exact Q2p V0, by rw [g3]; omega, fun _ => by rw [g4]; omega, fun le => ?_, by rw [g3, g4, g6, g5]; grind, fun _ => by rw [g3, g4]; exact gcd_left q0 g5 g6 gr⟩
        rw [g3, g4]
        rw [g5, g6] at le
        exact Int.le_of_mul_le_mul_left le q0)
    · exact ⟨N2.trans n3, t3, fun V0 => by rw [V3.2]; exact Vp V0, by rw [A3.2]; exact Int.le_refl _, fun _ => by rw [V3.2]; exact Int.le_refl _, fun le => by rw [A3.2, V3.2]; exact le, by rw [A3.2, V3.2], fun _ => by
        have q1 : nv M17 r = 1 := x1v x1
        rw [q1] at gr
        rw [A3.2, V3.2]
        exact gcd_left (q := 1) (by decide) (Int.one_mul _).symm (Int.one_mul _).symm gr⟩
end NAY
end
section
/-! The Scales: fitting, whole parts, picking. -/
section NAZ
variable {G : mG} {d b c z n m w S x y B u g a R cn f s : Nat} {M M0 M' M1 M2 M3 : mM} {L : List Nat} {W : Nat → Nat} {T T' I I' : Nat → Prop} {sh t : Int}
/-- what fitting leaves behind -/
def ftQ (L : List Nat) (W : Nat → Nat) (z f : Nat) (t A V : Int) (M : mM) (x : Int) (M' : mM) : Prop := NL L W (Tre z f) (fun x => x = f) False z M M' ∧ mI M' f 2 = 1 ∧ (0 < V → 0 < nv M' (f + 3)) ∧ (x = 0 ∨ x = 1) ∧ (x ≠ 0 → nv M' (f + 3) < 2 ^ 480) ∧ (A ≤ t * V → nv M' (f + 1) ≤ nv M' (f + 3)) ∧ (0 < V → nv M' (f + 1) * (t * V) = A * nv M' (f + 3) ∧ (x = 0 → ¬ ft9 ((A : Rat) * ((t * V : Int) : Rat)⁻¹)))
theorem s_ft74 {A V : Int} (h : Rds L W z f M) (N : NL L W (Tre z f) (fun x => x = f) False z M0 M) (t2 : mI M f 2 = 1) (V0 : 0 < V → 0 < nv M (f + 3)) (le : A ≤ t * V → nv M (f + 1) ≤ nv M (f + 3)) (ex : 0 < V → nv M (f + 1) * (t * V) = A * nv M (f + 3) ∧ (2 ^ 480 ≤ nv M (f + 3) → ¬ ft9 ((A : Rat) * ((t * V : Int) : Rat)⁻¹))) : h_Sc_fits_74 G (d + 1) f M (ftQ L W z f t A V M0) := by
  obtain ⟨⟨k1, k2⟩, -, ⟨f0, f1⟩, -, -, mf1, mf3⟩ := h.pl
  refine k_Sc_fits_74 h.1 ?_
  rw [f1]
  refine ⟨k2, h.2.1.kd mf3, (s_Na_bits (d := d) h.1 (h.2.1.nt mf3)).mono (fun x M37 k => ?_)⟩
  obtain ⟨e, n, en, n1, n2, n3, n4⟩ := k
  have cb := h.2.1.cb mf3
  have sc := h.2.1.sc mf3
  have n2' : nv M (f + 3) < 2 ^ n := n2
  rw [e]
  refine ⟨⟨by omega, by omega⟩, h.1, fun v41 e41 => ⟨N, t2, V0, ?_, fun v0 => ?_, le, fun vp => ⟨(ex vp).1, fun v0 => (ex vp).2 ?_⟩⟩⟩
  · rw [e41]; split <;> omega
  · by_cases c : 480 < x
    · rw [if_pos c] at e41; exact absurd e41 v0
    · exact Int.lt_of_lt_of_le n2' (p2m (by omega))
  · by_cases c : 480 < x
    · have s0 : 0 < sz M (f + 3) := Classical.byContradiction (fun z => by
        have := n4 (by omega)
        omega)
      have n3' : 2 ^ (n - 1) ≤ nv M (f + 3) := (n3 s0).2
      exact Int.le_trans (p2m (by omega)) n3'
    · rw [if_neg c, v0] at e41
      exact absurd e41 (by decide)
theorem f_fits (h : Rds L W z f M) (nf : ¬ T4 z (f + 1) ∧ ¬ T4 z (f + 3)) (ht : mI M f 2 = t) (t1 : 1 ≤ t ∧ t < 1073741824) (s1 : sz M (f + 1) ≤ s) (s3 : sz M (f + 3) ≤ s) (hs : s ≤ 14000) (hW : ∀ x, Tre z f x → s + 4 ≤ W x) : Ci G y_Sc_fits (d + 6) [vr z, vr f] M (ftQ L W z f t (nv M (f + 1)) (nv M (f + 3)) M) := by
  obtain ⟨⟨k1, k2⟩, ⟨r2, r3⟩, ⟨f0, f1⟩, m5, m7, mf1, mf3⟩ := h.pl
  have hF := h.2.1
  have w3 := hW _ (Or.inr (Or.inr rfl))
  have f13 : f + 3 ≠ f + 1 := nez (by decide)
  have A0 := hF.nn0 mf1
  refine k_Sc_fits h.1 ?_
  rw [f1, ht]
  refine ⟨k2, hF.kd mf3, (f_multiply (d := d + 3) t1 h.1 hF mf3 (by omega)).mono (fun M3 k => ?_)⟩
  obtain ⟨c1, v1⟩ := k
  obtain ⟨n1, H1⟩ := h.st (Or.inr (Or.inr rfl)) c1
  have a1 := (c1.num hF mf1 (fun e => f13 e.symm)).2.2.2
  refine ⟨c1.ok, H1.2.2.2.1.1, fun M7 e7 => ?_⟩
  obtain ⟨n2, t2, vv⟩ := nl_times (T := Tre z f) (I := fun x => x = f) (r := False) (z := z) c1.ok H1.2.1 H1.2.2.2 H1.2.2.1.z9 ⟨by decide, by decide⟩ e7 h.tre rfl H1.iw
  have H2 := H1.nl n2
  have N2 := n1.trans n2
  have F2 := H2.2.1
  have A2 : nv M7 (f + 1) = nv M (f + 1) := by rw [vv _ mf1, a1.2.1]
  have V2 : nv M7 (f + 3) = t * nv M (f + 3) := by rw [vv _ mf3, v1]
  have Vn := hF.nn0 mf3
  have Vp : 0 < nv M (f + 3) → 0 < t * nv M (f + 3) := fun V0 => Int.mul_pos (by omega) V0
  have sv : sz M7 (f + 3) ≤ s + 1 := F2.szv mf3 (by rw [V2]; exact (mul_sz ⟨Vn, Int.lt_of_lt_of_le (hF.vlt mf3) (p30m s3)⟩ t1).2)
  have sa : sz M7 (f + 1) ≤ s := F2.szv mf1 (by rw [A2]; exact Int.lt_of_lt_of_le (hF.vlt mf1) (p30m s1))
  obtain ⟨⟨k1, k2⟩, ⟨r2, r3⟩, ⟨f0, f1⟩, -⟩ := H2.pl
  have pt : ∀ {M8 : mM} {v : Int}, (v = 0 ∨ v = 1) → v * (t * nv M (f + 3)) = nv M (f + 1) → (NL L W (T2 f) (fun x => x = f) False z M7 M8 ∧ nv M8 (f + 1) = v ∧ nv M8 (f + 3) = 1 ∧ mI M8 f 2 = 1) → mOk M8 ∧ h_Sc_fits_74 G (d + 5) f M8 (ftQ L W z f t (nv M (f + 1)) (nv M (f + 3)) M) := by
    intro M8 v hv hA k
    obtain ⟨n3, p1, p3, p2⟩ := k
    have n3' : NL L W (Tre z f) (fun x => x = f) False z M7 M8 := n3.mono F2 (fun t ht => Or.inr ht) h.tre (fun _ e => e) H2.iw (fun e => e)
    exact ⟨n3.ok, s_ft74 (d := d + 4) (H2.nl n3') (N2.trans n3') p2 (fun _ => by rw [p3]; decide) (fun _ => by rw [p1, p3]; omega) (fun _ => ⟨by rw [p1, p3, Int.mul_one]; exact hA, fun u => by rw [p3] at u; exact absurd u (by decide +kernel)⟩)⟩
  rw [f0, f1, (F2.nt mf1).2.1]
  refine ⟨F2.kd mf1, fun y => (f_Fr_put0 (d := d + 4) ⟨by decide, by decide⟩ H2.1 F2 H2.2.2.2 H2.2.2.1.z9).mono (fun M12 k => pt (Or.inl rfl) (by rw [Int.zero_mul, ← A2]; exact ((F2.sz0 mf1).1 (by omega)).symm) k), fun y => (f_order (d := d + 5) H2.1 F2 mf1 mf3).mono (fun x16 M15 k => ?_)⟩
  obtain ⟨e15, ox⟩ := k
  rw [e15, f1]
  refine ⟨by unfold orQ at ox; exact ⟨by omega, by omega⟩, H2.1, fun y => ⟨k2, (f_Fr_put0 (d := d + 4) ⟨by decide, by decide⟩ H2.1 F2 H2.2.2.2 H2.2.2.1.z9).mono (fun M21 k => pt (Or.inr rfl) (by
    rw [A2, V2] at ox
    unfold orQ at ox
    rw [Int.one_mul]
    omega) k)⟩, fun y => ⟨k2, F2.kd mf3, (s_Na_bits (d := d + 4) H2.1 (F2.nt mf3)).mono (fun x27 M26 k => ?_)⟩⟩
  obtain ⟨e26, nb, en, nb1, nb2, -⟩ := k
  have nb2' : nv M7 (f + 3) < 2 ^ nb := nb2
  have cb := F2.cb mf3
  have sc := F2.sc mf3
  rw [e26]
  refine ⟨⟨by omega, by omega⟩, H2.1, fun le9 => s_ft74 (d := d + 4) H2 N2 t2 (fun V0 => by rw [V2]; exact Vp V0) (fun le => by rw [A2, V2]; exact le) (fun _ => ⟨by rw [A2, V2], fun u => by
    have := Int.lt_of_lt_of_le nb2' (p2m (show nb ≤ 480 by omega))
    omega⟩), fun _ => ⟨k1, (f_reduce (d := d) (s := s + 1) (t := 1) H2 nf t2 ⟨by decide, by decide⟩ (by omega) sv (by omega) (fun x hx => by have := hW x hx; omega)).mono (fun M32 k => ?_)⟩⟩
  obtain ⟨n4, p1, p2, p3, p4, p5, p6, p7⟩ := k
  refine ⟨n4.ok, s_ft74 (d := d + 4) (H2.nl n4) (N2.trans n4) p1 (fun V0 => p2 (by rw [V2]; exact Vp V0)) (fun le => p5 (by rw [A2, V2, Int.one_mul]; exact le)) (fun V0 => ?_)⟩
  have V0' : 0 < nv M7 (f + 3) := by rw [V2]; exact Vp V0
  have p7' := p7 V0'
  have p2' := p2 V0'
  rw [Int.one_mul, A2, V2] at p6
  exact ⟨p6, fun u => nft_of (rat_cross (Vp V0) p6) (n4.nf.nn0 mf1) p2' p7' (Or.inr u)⟩
/-- how often a divisor is in a number -/
theorem f_wholePart (hO : mOk M) (hF : NF L W M) (hS : SK L M z) (ha : a ∈ L) (hb : b ∈ L) (ab : a ≠ b) (na : ¬ T4 z a) (nb : ¬ T4 z b) (b0 : 0 < nv M b) (wa : sz M a + 2 ≤ W a) (w5 : sz M a + 1 ≤ W (z + 5)) (w7 : sz M b + 1 ≤ W (z + 7)) : Ci G y_Sc_wholePart (d + 4) [vr z, vr a, vr b] M (fun x M' => NC L W (fun x => x = a ∨ x = z + 5 ∨ x = z + 7) M M' ∧ nv M' a < nv M b ∧ 0 ≤ x ∧ x < 1073741824 ∧ nv M a = nv M b * nv M' (z + 5) + nv M' a ∧ (nv M' (z + 5) < 1073741824 → x = nv M' (z + 5))) := by
  obtain ⟨⟨k1, k1'⟩, ⟨-, -, r2, r3, -⟩, -, -, -, ⟨-, -, m5, m7, -⟩, -⟩ := id hS
  have a5 : a ≠ z + 5 := fun e => na (Or.inr (Or.inr (Or.inl e)))
  have a7 : a ≠ z + 7 := fun e => na (Or.inr (Or.inr (Or.inr e)))
  have b5 : b ≠ z + 5 := fun e => nb (Or.inr (Or.inr (Or.inl e)))
  have b7 : b ≠ z + 7 := fun e => nb (Or.inr (Or.inr (Or.inr e)))
  refine k_Sc_wholePart hO ?_
  rw [r2, r3]
  refine ⟨k1, hF.kd ha, (f_divide (d := d) hO hF ha hb m5 m7 ab a5 a7 b5 b7 (nez (by decide)) b0 wa w5 w7).mono (fun M3 k => ?_)⟩
  obtain ⟨c, v, l⟩ := k
  have hF3 := c.nf
  have hS3 := (c.nl (I := fun _ => False) (r := False) noI hS.z9).sk hF hS
  obtain ⟨⟨j1, -⟩, ⟨-, -, j2, -⟩, -⟩ := id hS3
  have t5 := hF3.nt m5
  have q := t5.1.2.2.2.2.1.1
  have cc : mN M3 (mR M3 (z + 5) 0) = cp M3 (z + 5) := rfl
  have q0 := hF3.nn0 m5
  rw [j2, t5.2.1, cc]
  refine ⟨c.ok, j1, hF3.kd m5, fun _ => ⟨hF3.ka m5, ⟨by omega, by omega⟩⟩, fun v11 e11 => ?_⟩
  by_cases u : sz M3 (z + 5) = 0
  · rw [if_pos (by omega)] at e11
    rw [e11]
    exact ⟨c, l, by decide, by decide, v, fun _ => ((hF3.sz0 m5).1 u).symm⟩
  · rw [if_neg (by omega)] at e11
    have lb := t5.2.2.2.1 0 (by omega)
    rw [e11]
    refine ⟨c, l, lb.1, lb.2, v, fun lt => ?_⟩
    have s1 : sz M3 (z + 5) ≤ 1 := hF3.szv m5 (by rw [show (2 : Int) ^ (30 * 1) = 1073741824 by decide]; exact lt)
    unfold nv
    rw [show sz M3 (z + 5) = 1 by first | rfl | omega]
    show _ = 0 + mI M3 (mR M3 (z + 5) 0) 0 * 2 ^ (30 * 0)
    rw [show (2 : Int) ^ (30 * 0) = 1 by decide]
    omega
end NAZ
end
section
/-! The Scales: the best command is picked. -/
section NBA
variable {G : mG} {d b c z n m w S x y B u g a R cn bc f s i to : Nat} {M M0 M' M1 M2 M3 : mM} {L : List Nat} {W : Nat → Nat} {T T' I I' : Nat → Prop} {r : Prop} {sh t : Int}
/-- all numbers of the Scales -/
def Tpk (z x : Nat) : Prop := T4 z x ∨ Tor z x ∨ (x = z + 14 ∨ x = z + 16) ∨ T2 (z + 18) x ∨ T2 (z + 23) x
def Ipk (z x : Nat) : Prop := x = z + 18 ∨ x = z + 23
/-- a row lies apart -/
def Rap (z f : Nat) : Prop := ¬ Tpk z (f + 1) ∧ ¬ Tpk z (f + 3) ∧ f ≠ z + 18 ∧ f ≠ z + 23
theorem Rap.dw (h : Rap z f) (hw : Ipk z w) : Dwg z w f := by
  obtain ⟨h1, h2, h3, h4⟩ := h
  have tw : ∀ x, Twg z w x → Tpk z x := by
    intro x hx
    rcases hx with u | u | u | u | u | u
    · exact Or.inl u
    · exact Or.inr (Or.inl (Or.inr u))
    · exact Or.inr (Or.inr (Or.inl (Or.inl u)))
    · exact Or.inr (Or.inr (Or.inl (Or.inr u)))
    · rcases hw with e | e <;> rw [e] at u
      · exact Or.inr (Or.inr (Or.inr (Or.inl (Or.inl u))))
      · exact Or.inr (Or.inr (Or.inr (Or.inr (Or.inl u))))
    · rcases hw with e | e <;> rw [e] at u
      · exact Or.inr (Or.inr (Or.inr (Or.inl (Or.inr u))))
      · exact Or.inr (Or.inr (Or.inr (Or.inr (Or.inr u))))
  refine ⟨?_, fun u => h1 (tw _ u), fun u => h2 (tw _ u), ?_⟩
  · unfold T4
    rcases hw with e | e <;> subst e <;> omega
  · rcases hw with e | e
    · rw [e]; exact h3
    · rw [e]; exact h4
theorem tw_pk (hw : Ipk z w) {x : Nat} (hx : Twg z w x) : Tpk z x := by
  rcases hx with u | u | u | u | u | u
  · exact Or.inl u
  · exact Or.inr (Or.inl (Or.inr u))
  · exact Or.inr (Or.inr (Or.inl (Or.inl u)))
  · exact Or.inr (Or.inr (Or.inl (Or.inr u)))
  · rcases hw with e | e <;> rw [e] at u
    · exact Or.inr (Or.inr (Or.inr (Or.inl (Or.inl u))))
    · exact Or.inr (Or.inr (Or.inr (Or.inr (Or.inl u))))
  · rcases hw with e | e <;> rw [e] at u
    · exact Or.inr (Or.inr (Or.inr (Or.inl (Or.inr u))))
    · exact Or.inr (Or.inr (Or.inr (Or.inr (Or.inr u))))
theorem SK.tpk (h : SK L M z) : ∀ t, Tpk z t → t ∈ L := by
  intro t ht
  obtain ⟨-, -, -, -, -, ⟨h1, h2, h3, h4, h5, h6, h7, h8⟩, ⟨h9, h10, h11, h12⟩⟩ := id h
  rcases ht with u | (u | u) | (u | u) | (u | u) | (u | u)
  · exact h.t4 t u
  · rw [u]; exact h5
  · rw [u]; exact h6
  · rw [u]; exact h7
  · rw [u]; exact h8
  · rw [u]; exact h9
  · rw [u]; exact h10
  · rw [u]; exact h11
  · rw [u]; exact h12
theorem SK.ipk (h : SK L M z) : ∀ x, Ipk z x → x < mZ M ∧ mK M x = 11 := by
  intro x hx
  obtain ⟨-, -, -, -, ⟨h1, h2⟩, -⟩ := h
  rcases hx with u | u
  · rw [u]; exact ⟨h1.2.2, h1.1⟩
  · rw [u]; exact ⟨h2.2.2, h2.1⟩
theorem SK.frl (h : SK L M z) (hw : Ipk z w) : FrL L M w := by
  obtain ⟨-, -, -, -, ⟨h1, h2⟩, -, ⟨h9, h10, h11, h12⟩⟩ := h
  rcases hw with u | u
  · rw [u]; exact ⟨h1, h9, h10⟩
  · rw [u]; exact ⟨h2, h11, h12⟩
/-- where picking works -/
def Pe (L : List Nat) (W : Nat → Nat) (z g a R cn : Nat) (M : mM) : Prop := (mOk M ∧ NF L W M ∧ SK L M z) ∧ (GK9 M g ∧ ∀ i, i ≤ 9 → Oc L M (g + i)) ∧ Rws L M a R cn ∧ ∀ i, i < cn → Rap z (mR M R i)
theorem Pe.we (h : Pe L W z g a R cn M) (hw : Ipk z w) : We L W z w g a R cn M := by
  obtain ⟨⟨h1, h2, h3⟩, h4, h5, h6⟩ := h
  exact ⟨⟨h1, h2, h3, h3.frl hw⟩, h4, h5, fun i hi => (h6 i hi).dw hw⟩
theorem Pe.nl (h : Pe L W z g a R cn M) (k : NL L W (Tpk z) (Ipk z) r z M M') (hS : SK L M' z) : Pe L W z g a R cn M' ∧ (∀ i, i ≤ 9 → mI M' (g + i) = mI M (g + i)) ∧ mR M' R = mR M R ∧ ∀ i, i < cn → nv M' (mR M R i + 1) = nv M (mR M R i + 1) ∧ nv M' (mR M R i + 3) = nv M (mR M R i + 3) := by
  obtain ⟨t1, t2, t3, t4, t5⟩ := (h.we (w := z + 18) (Or.inl rfl)).tb k (fun x e => (h.1.2.2.ipk x e).2)
  obtain ⟨⟨h1, h2, h3⟩, h4, h5, h6⟩ := h
  refine ⟨⟨⟨k.ok, k.nf, hS⟩, ⟨t1, t2⟩, t4, fun i hi => by rw [t5]; exact h6 i hi⟩, t3, t5, fun i hi => ?_⟩
  have hf := h5.2.2.2.2.2 i hi
  exact ⟨(k.num h2 hf.2.1 (h6 i hi).1).2.2, (k.num h2 hf.2.2 (h6 i hi).2.1).2.2⟩
/-- a worth that was weighed -/
def Bst (M0 : mM) (R cn S : Nat) (M : mM) (b : Nat) : Prop := (0 ≤ nv M (b + 3) ∧ nv M (b + 3) < 2 ^ (30 * (8 * S + 1))) ∧ nv M (b + 1) < 2 ^ (30 * (8 * S + 3)) ∧ (1 ≤ mI M b 2 ∧ mI M b 2 < 1000000000) ∧ (Rle M0 R cn → nv M (b + 1) ≤ mI M b 2 * nv M (b + 3) ∧ 0 < nv M (b + 3))
theorem Bst.cg (h : Bst M0 R cn S M b) (e1 : nv M' (b + 1) = nv M (b + 1)) (e3 : nv M' (b + 3) = nv M (b + 3)) (e2 : mI M' b = mI M b) : Bst M0 R cn S M' b := by
  unfold Bst
  rw [e1, e3, e2]
  exact h
/-- what picking leaves behind -/
def pkQ (L : List Nat) (W : Nat → Nat) (z R cn S fr to : Nat) (M : mM) (x : Int) (M' : mM) : Prop := NL L W (Tpk z) (Ipk z) True z M M' ∧ SK L M' z ∧ Bst M R cn S M' (mR M' z 9) ∧ ((fr : Int) ≤ x ∧ x < to)
/-- the two worths -/
theorem SK.bt (h : SK L M z) : Ipk z (mR M z 9) ∧ Ipk z (mR M z 10) ∧ mR M z 9 ≠ mR M z 10 := by
  obtain ⟨-, -, h3, -⟩ := h
  unfold Ipk
  omega
theorem wg_pk (hE : Pe L W z g a R cn M) (hw : Ipk z w) {mu : Nat} (hm : 1 ≤ mu ∧ mu < 1000000000) (q : wgQ L W z w R cn S mu M M') : NL L W (Tpk z) (Ipk z) True z M M' ∧ SK L M' z ∧ Bst M R cn S M' w := by
  obtain ⟨n, u, v, tt, le⟩ := q
  refine ⟨n.mono hE.1.2.1 (fun t ht => tw_pk hw ht) hE.1.2.2.tpk (fun x e => by rw [e]; exact hw) hE.1.2.2.ipk (fun e => e.elim), n.sk hE.1.2.1 hE.1.2.2, u, v, by rw [tt]; omega, fun l => by rw [tt]; exact le l⟩
theorem s_pkStep (hE : Pe L W z g a R cn M) (hrs : Rsm M R cn S) (hW : ∀ x, Tpk z x → B ≤ W x) (b1 : 16 * S + 10 ≤ B) (hB : B ≤ 16000) (hb : Bst M0 R cn S M (mR M z 9)) (hc : c < 4096) (hcn : cn ≤ 512) (hbc : bc ≤ 4096) (hcm : cmdG M g cn bc c) (hle : Rle M0 R cn → Rle M R cn) {v9 : Rat} (hv9 : BsV M0 R cn M (mR M z 9) v9) {Q : Int → mM → Prop}
    (hQ : ∀ x M', NL L W (Tpk z) (Ipk z) True z M M' → SK L M' z → (mR M' z = mR M z) → Bst M0 R cn S M' (mR M z 9) → Bst M0 R cn S M' (mR M z 10) → i32 x → BsV M0 R cn M' (mR M z 9) v9 → BsV M0 R cn M' (mR M z 10) (wr9 (rwv M R) (cmm M g c)) → (Rle M0 R cn → orR (wr9 (rwv M R) (cmm M g c)) v9 x) → Q x M') : mK M z = 9 ∧ Cv G y_Sc_weigh (d + 5) [vr z, vr g, vi c, vr a, vr (mR M z 10)] M (fun M8 => mOk M8 ∧ (mK M8 z = 9 ∧ Ci G y_Sc_order (d + 5) [vr z, vr (mR M8 z 10), vr (mR M8 z 9)] M8 (fun x13 M12 => i32 x13 ∧ mOk M12 ∧ Q x13 M12))) := by
  obtain ⟨i9, i10, ne⟩ := hE.1.2.2.bt
  have hF := hE.1.2.1
  have hS := hE.1.2.2
  obtain ⟨mu, hm, emu, k⟩ := f_weighX (G := G) (d := d) (B := B) (S := S) (hE.we i10) hrs (fun x hx => hW x (tw_pk i10 hx)) (by omega) hB hc hcn hbc hcm
  refine ⟨hS.1.1, k.mono (fun M8 qv => ?_)⟩
  obtain ⟨q, qv⟩ := qv
  have bv8 : BsV M R cn M8 (mR M z 10) (wr9 (rwv M R) (cmm M g c)) := by
    have := wv_bs qv (show (0 : Int) < ((mu : Nat) : Int) by omega) q.2.2.2.1 (fun l => (q.2.2.2.2 l).2)
    unfold wr9
    rw [emu]
    exact this
  have rz : mR M8 z = mR M z := (q.1.2.2.1.2 z hS.1.2).2.2.2.1 (fun u => u.elim (fun u => (hF.nz hS.1.1 (hS.tpk z (tw_pk i10 u))).1 rfl) (fun u => u.2))
  have q0 := q
  obtain ⟨n1, sk8, bt8⟩ := wg_pk hE i10 hm q
  have bt8' : Bst M0 R cn S M8 (mR M z 10) := ⟨bt8.1, bt8.2.1, bt8.2.2.1, fun l => bt8.2.2.2 (hle l)⟩
  have F8 := n1.nf
  have f9 := hS.frl i9
  have nt : ¬ Twg z (mR M z 10) (mR M z 9 + 1) ∧ ¬ Twg z (mR M z 10) (mR M z 9 + 3) := by
    rcases hS.2.2.1 with ⟨e1, e2⟩ | ⟨e1, e2⟩ <;> rw [e1, e2] <;> unfold Twg T4 <;> omega
  have bb8 : Bst M0 R cn S M8 (mR M z 9) := hb.cg (q0.1.num hF f9.2.1 nt.1).2.2 (q0.1.num hF f9.2.2 nt.2).2.2 ((q0.1.frp hF f9.1).2 ne)
  have bw8 : BsV M0 R cn M8 (mR M z 9) v9 := hv9.cg (q0.1.num hF f9.2.1 nt.1).2.2 (q0.1.num hF f9.2.2 nt.2).2.2 ((q0.1.frp hF f9.1).2 ne)
  rw [rz]
  have f9' := sk8.frl i9
  have f10' := sk8.frl i10
  have os : ∀ {b : Nat}, FrL L M8 b → Bst M0 R cn S M8 b → Osz M8 b (8 * S + 3) := fun hb hB => ⟨F8.szv hb.2.1 hB.2.1, F8.szv hb.2.2 (Int.lt_of_lt_of_le hB.1.2 (p30m (by omega))), hB.2.2.1.1, by have := hB.2.2.1.2; omega⟩
  have ot : ∀ {b : Nat}, Ipk z b → ¬ Tor z (b + 1) ∧ ¬ Tor z (b + 3) := fun hb => by
    unfold Tor
    rcases hb with e | e <;> subst e <;> omega
  refine ⟨n1.ok, sk8.1.1, (f_Sc_orderX (d := d) (s := 8 * S + 3) ⟨n1.ok, F8, sk8, f10', f9'⟩ (os f10' bt8') (os f9' bb8) (ot i10) (ot i9) (by have := hW _ (Or.inr (Or.inl (Or.inl rfl))); omega) (by have := hW _ (Or.inr (Or.inl (Or.inr rfl))); omega)).mono (fun x M12 k2 => ?_)⟩
  obtain ⟨n2, xx, xo⟩ := k2
  have xi : i32 x := by rcases xx with e | e | e <;> rw [e] <;> exact ⟨by decide, by decide⟩
  have n2' : NL L W (Tpk z) (Ipk z) True z M8 M12 := n2.mono F8 (fun t ht => Or.inr (Or.inl ht)) hS.tpk (fun _ e => e.elim) sk8.ipk (fun e => e.elim)
  have sk12 := n2.sk F8 sk8
  have rz2 : mR M12 z = mR M8 z := (n2.2.2.1.2 z sk8.1.2).2.2.2.1 (fun u => u.elim (fun u => (F8.nz sk8.1.1 (hS.tpk z (Or.inr (Or.inl u)))).1 rfl) (fun u => u.2))
  refine ⟨xi, n2.ok, hQ x M12 (n1.trans n2') sk12 (by rw [rz2, rz]) ?_ ?_ xi ?_ ?_ (fun l => ?_)⟩
  · exact bb8.cg (n2.num F8 f9'.2.1 (ot i9).1).2.2 (n2.num F8 f9'.2.2 (ot i9).2).2.2 ((n2.frp F8 f9'.1).2 (fun e => e))
  · exact bt8'.cg (n2.num F8 f10'.2.1 (ot i10).1).2.2 (n2.num F8 f10'.2.2 (ot i10).2).2.2 ((n2.frp F8 f10'.1).2 (fun e => e))
  · exact bw8.cg (n2.num F8 f9'.2.1 (ot i9).1).2.2 (n2.num F8 f9'.2.2 (ot i9).2).2.2 ((n2.frp F8 f9'.1).2 (fun e => e))
  · exact BsV.cg (fun l => bv8 (hle l)) (n2.num F8 f10'.2.1 (ot i10).1).2.2 (n2.num F8 f10'.2.2 (ot i10).2).2.2 ((n2.frp F8 f10'.1).2 (fun e => e))
  · rw [← bv8 (hle l), ← bw8 l]
    exact xo (bt8'.2.2.2 l).2 (bb8.2.2.2 l).2
end NBA
end
section
/-! The Scales: picking, the whole. -/
section NBB
variable {G : mG} {d b c z n m w S x y B u g a R cn bc f s i fr to : Nat} {M M0 M' M1 M2 M3 : mM} {L : List Nat} {W : Nat → Nat} {T T' I I' : Nat → Prop} {r : Prop} {sh t : Int}
theorem cmdG.same (h : cmdG M g cn bc c) (e : ∀ i, i ≤ 9 → mI M' (g + i) = mI M (g + i)) : cmdG M' g cn bc c := h.cg ⟨by rw [e 7 (by decide)], by rw [e 7 (by decide)]⟩ (by rw [e 6 (by decide)]) (by rw [e 5 (by decide)]) (fun i _ => ⟨by rw [e 8 (by decide)], by rw [e 9 (by decide)]⟩) (Nat.le_refl _) (Nat.le_refl _)
/-- what the best of the commands fr to fr + i is worth -/
noncomputable def pkv (l4 : Int) (M : mM) (R g fr i : Nat) : Rat := bst9 (l4 ≠ 0) (fun j => wr9 (rwv M R) (cmm M g (fr + j))) i
/-- the two worths change places -/
theorem nl_swap (hO : mOk M) (hF : NF L W M) (hS : SK L M z) (e1 : M1 = mUR M z 9 (mR M z 10)) (e2 : M2 = mUR M1 z 10 (mR M z 9)) : NL L W (Tpk z) (Ipk z) True z M M2 ∧ SK L M2 z ∧ (∀ a, a ∈ L → nv M2 a = nv M a) ∧ mI M2 = mI M ∧ (mR M2 z 9 = mR M z 10 ∧ mR M2 z 10 = mR M z 9) := by
  have rr : ∀ a j, mR M2 a j = if a = z ∧ j = 10 then mR M z 9 else if a = z ∧ j = 9 then mR M z 10 else mR M a j := fun a j => by rw [e2, mR_UR, e1, mR_UR]
  have ro : ∀ a, a ≠ z → mR M2 a = mR M a := fun a ha => by
    funext j
    rw [rr, if_neg (fun u => ha u.1), if_neg (fun u => ha u.1)]
  have r9 : mR M2 z 9 = mR M z 10 := by rw [rr, if_neg (fun u => absurd u.2 (by decide)), if_pos ⟨rfl, rfl⟩]
  have r10 : mR M2 z 10 = mR M z 9 := by rw [rr, if_pos ⟨rfl, rfl⟩]
  have ri : ∀ j, j ≠ 9 → j ≠ 10 → mR M2 z j = mR M z j := fun j h9 h10 => by rw [rr, if_neg (fun u => h10 u.2), if_neg (fun u => h9 u.2)]
  have kk : mK M2 = mK M := by rw [e2, e1]; rfl
  have nn : mN M2 = mN M := by rw [e2, e1]; rfl
  have ii : mI M2 = mI M := by rw [e2, e1]; rfl
  have ll : mL M2 = mL M := by rw [e2, e1]; rfl
  have zz : mZ M2 = mZ M := by rw [e2, e1]; rfl
  have ss : mS M2 = mS M := by rw [e2, e1]; rfl
  have o2 : mOk M2 := by rw [e2, e1]; exact mOk_UR (mOk_UR hO)
  have nz : ∀ a, a ∈ L → a ≠ z := fun a ha => (hF.nz hS.1.1 ha).1
  have nt' : ∀ a, a ∈ L → Nt M2 a (mR M a 0) (cp M a) (sz M a) := fun a ha => by
    have t := hF.nt ha
    unfold Nt Nl lim at t ⊢
    rw [kk, nn, ro a (nz a ha), ii, zz]
    exact t
  have cc : ∀ a, a ∈ L → cp M2 a = cp M a := fun a ha => (nt' a ha).cp
  refine ⟨⟨⟨o2, hF.1, fun a ha => ⟨(nt' a ha).nn, by rw [cc a ha]; exact (hF.2.1 a ha).2.1, (hF.2.1 a ha).2.2⟩, fun a b ha hb u => hF.2.2 a b ha hb (by rw [← ro a (nz a ha), ← ro b (nz b hb)]; exact u)⟩, ⟨hS.tpk, hS.ipk, hS.z9⟩, ⟨⟨by rw [zz]; exact Nat.le_refl _, by rw [ss]; exact Nat.le_refl _⟩, fun x _ => ⟨by rw [kk], by rw [nn], fun _ => by rw [ll], fun u => ro x (fun e => u (Or.inr ⟨e, trivial⟩)), fun _ => by rw [ii]⟩⟩, fun t ht => Or.inl (by rw [ro t (nz t (hS.tpk t ht))]), ?_⟩, ?_, fun a ha => (nt' a ha).nv.trans (by rw [ii]; rfl), ii, r9, r10⟩
  · unfold RmN
    rw [psum_congr L (fun q hq => (cc q hq)), psum_congr (f := fun p => cp M2 p / 4) (g := fun p => cp M p / 4) L (fun q hq => by show cp M2 q / 4 = cp M q / 4; rw [cc q hq]), zz, ss]
    exact ⟨Nat.le_refl _, Nat.le_refl _⟩
  · obtain ⟨k1, k2, k3, k4, ⟨k5, k6⟩, k7, k8⟩ := id hS
    have n18 : z + 18 ≠ z := by omega
    have n23 : z + 23 ≠ z := by omega
    unfold SK FrP
    rw [kk, nn, zz, ri 0 (by decide) (by decide), ri 1 (by decide) (by decide), ri 2 (by decide) (by decide), ri 3 (by decide) (by decide), ri 4 (by decide) (by decide), ri 5 (by decide) (by decide), ri 6 (by decide) (by decide), ri 7 (by decide) (by decide), ri 8 (by decide) (by decide), r9, r10, ro _ n18, ro _ n23]
    exact ⟨k1, k2, k3.elim (fun u => Or.inr ⟨u.2, u.1⟩) (fun u => Or.inl ⟨u.2, u.1⟩), k4, ⟨k5, k6⟩, k7, k8⟩
theorem s_pk20 {l4 : Int} (h4 : i32 l4) (hE0 : Pe L W z g a R cn M0) (hrs0 : Rsm M0 R cn S) (hW : ∀ x, Tpk z x → B ≤ W x) (b1 : 16 * S + 10 ≤ B) (hB : B ≤ 16000) (hto : to ≤ 4096) (hcn : cn ≤ 512) (hbc : bc ≤ 4096) (hcm : ∀ c, fr ≤ c → c < to → cmdG M0 g cn bc c) : ∀ (t p c : Nat) (M : mM), to ≤ c + t → fr ≤ p → p < to → fr + 1 ≤ c → c ≤ to → NL L W (Tpk z) (Ipk z) True z M0 M → SK L M z → Bst M0 R cn S M (mR M z 9) → BsV M0 R cn M (mR M z 9) (pkv l4 M0 R g fr (c - 1 - fr)) → h_Sc_pick_20 G (d + 5) z g to l4 a p c M (fun x M' => pkQ L W z R cn S fr to M0 x M' ∧ BsV M0 R cn M' (mR M' z 9) (pkv l4 M0 R g fr (to - 1 - fr))) := by
  intro t
  induction t with
  | zero =>
    intro p c M h1 h2 h3 h5 h6 hN hS hb hv9
    have ec : c = to := by omega
    rw [ec] at hv9
    exact k_Sc_pick_20 hN.ok ⟨by omega, by omega⟩ h4 ⟨by omega, by omega⟩ ⟨by omega, by omega⟩ ⟨fun _ => ⟨⟨hN, hS, hb, by omega, by omega⟩, hv9⟩, fun u => absurd u (by omega)⟩
  | succ t ih =>
    intro p c M h1 h2 h3 h5 h6 hN hS hb hv9
    obtain ⟨hE, e9, eR, vals⟩ := hE0.nl hN hS
    refine k_Sc_pick_20 hN.ok ⟨by omega, by omega⟩ h4 ⟨by omega, by omega⟩ ⟨by omega, by omega⟩ ⟨fun u => ⟨⟨hN, hS, hb, by omega, by omega⟩, by
      have ec : c = to := by omega
      rw [ec] at hv9
      exact hv9⟩, fun u => ?_⟩
    have hrs : Rsm M R cn S := fun i hi => by
      rw [eR, (vals i hi).1, (vals i hi).2]
      exact hrs0 i hi
    have hle : Rle M0 R cn → Rle M R cn := fun q i hi => by
      rw [eR, (vals i hi).1, (vals i hi).2]
      exact q i hi
    rw [show ((c : Int) + 1) = ((c + 1 : Nat) : Int) by first | rfl | omega]
    have ew : wr9 (rwv M R) (cmm M g c) = wr9 (rwv M0 R) (cmm M0 g c) := by
      rw [cmm_same e9]
      exact wr_cg (fun b hb => by
        have lt := cmm_lt (hcm c (by omega) (by omega)) b hb
        exact rwv_cg eR (vals _ lt).1 (vals _ lt).2)
    refine s_pkStep (d := d) hE hrs hW b1 hB hb (by omega) hcn hbc ((hcm c (by omega) (by omega)).same e9) hle hv9 (fun x M12 n1 sk1 rz bb bt xi bv bw ox => ?_)
    rw [ew] at bw ox
    have e0 : pkv l4 M0 R g fr (c + 1 - 1 - fr) = @ite Rat ((l4 ≠ 0 ∧ pkv l4 M0 R g fr (c - 1 - fr) < wr9 (rwv M0 R) (cmm M0 g c)) ∨ (¬ l4 ≠ 0 ∧ wr9 (rwv M0 R) (cmm M0 g c) < pkv l4 M0 R g fr (c - 1 - fr))) (Classical.propDecidable _) (wr9 (rwv M0 R) (cmm M0 g c)) (pkv l4 M0 R g fr (c - 1 - fr)) := by
      have e1 : c + 1 - 1 - fr = c - 1 - fr + 1 := by omega
      have e2 : fr + (c - 1 - fr + 1) = c := by omega
      rw [e1]
      show @ite Rat ((l4 ≠ 0 ∧ pkv l4 M0 R g fr (c - 1 - fr) < wr9 (rwv M0 R) (cmm M0 g (fr + (c - 1 - fr + 1)))) ∨ (¬ l4 ≠ 0 ∧ wr9 (rwv M0 R) (cmm M0 g (fr + (c - 1 - fr + 1))) < pkv l4 M0 R g fr (c - 1 - fr))) (Classical.propDecidable _) (wr9 (rwv M0 R) (cmm M0 g (fr + (c - 1 - fr + 1)))) (pkv l4 M0 R g fr (c - 1 - fr)) = _
      rw [e2]
    have kv : ((l4 = 0 ∧ 0 ≤ x) ∨ (l4 ≠ 0 ∧ x ≤ 0)) → BsV M0 R cn M12 (mR M z 9) (pkv l4 M0 R g fr (c + 1 - 1 - fr)) := fun hx l => by
      rw [e0, if_neg, bv l]
      intro y
      have o := ox l
      rcases y with ⟨y1, y2⟩ | ⟨y1, y2⟩
      · rcases o with ⟨o1, o2⟩ | ⟨o1, o2⟩ | ⟨o1, o2⟩
        · rw [o2] at y2
          exact Rat.lt_irrefl y2
        · omega
        · exact rat3.1 y2 o2
      · rcases o with ⟨o1, o2⟩ | ⟨o1, o2⟩ | ⟨o1, o2⟩
        · rw [o2] at y2
          exact Rat.lt_irrefl y2
        · exact rat3.1 y2 o2
        · omega
    have tv : ((l4 = 0 ∧ ¬ 0 ≤ x) ∨ (l4 ≠ 0 ∧ ¬ x ≤ 0)) → BsV M0 R cn M12 (mR M z 10) (pkv l4 M0 R g fr (c + 1 - 1 - fr)) := fun hx l => by
      rw [e0, if_pos, bw l]
      have o := ox l
      rcases hx with ⟨y1, y2⟩ | ⟨y1, y2⟩
      · refine Or.inr ⟨fun w => w y1, ?_⟩
        rcases o with ⟨o1, o2⟩ | ⟨o1, o2⟩ | ⟨o1, o2⟩
        · omega
        · omega
        · exact o2
      · refine Or.inl ⟨y1, ?_⟩
        rcases o with ⟨o1, o2⟩ | ⟨o1, o2⟩ | ⟨o1, o2⟩
        · omega
        · exact o2
        · omega
    have N1 := hN.trans n1
    have keep : ((l4 = 0 ∧ 0 ≤ x) ∨ (l4 ≠ 0 ∧ x ≤ 0)) → h_Sc_pick_20 G (d + 5) z g to l4 a p ((c + 1 : Nat) : Int) M12 (fun x M' => pkQ L W z R cn S fr to M0 x M' ∧ BsV M0 R cn M' (mR M' z 9) (pkv l4 M0 R g fr (to - 1 - fr))) := fun hx => ih p (c + 1) M12 (by omega) h2 h3 (by omega) (by omega) N1 sk1 (by rw [rz]; exact bb) (by rw [rz]; exact kv hx)
    have take : ((l4 = 0 ∧ ¬ 0 ≤ x) ∨ (l4 ≠ 0 ∧ ¬ x ≤ 0)) → ∀ M29, M29 = mUR M12 z 9 (mR M12 z 10) → ∀ M31, M31 = mUR M29 z 10 (mR M12 z 9) → h_Sc_pick_20 G (d + 5) z g to l4 a c ((c + 1 : Nat) : Int) M31 (fun x M' => pkQ L W z R cn S fr to M0 x M' ∧ BsV M0 R cn M' (mR M' z 9) (pkv l4 M0 R g fr (to - 1 - fr))) := fun hx M29 e29 M31 e31 => by
      obtain ⟨n2, sk2, vv, ii, r9, r10⟩ := nl_swap N1.ok N1.nf sk1 e29 e31
      obtain ⟨i9, i10, -⟩ := sk1.bt
      have f10 := sk1.frl i10
      refine ih c (c + 1) M31 (by omega) (by omega) (by omega) (by omega) (by omega) (N1.trans n2) sk2 ?_ ?_
      rotate_left
      · rw [r9]
        exact (show BsV M0 R cn M12 (mR M12 z 10) (pkv l4 M0 R g fr (c + 1 - 1 - fr)) by rw [rz]; exact tv hx).cg (vv _ f10.2.1) (vv _ f10.2.2) (by rw [ii])
      rw [r9]
      exact (show Bst M0 R cn S M12 (mR M12 z 10) by rw [rz]; exact bt).cg (vv _ f10.2.1) (vv _ f10.2.2) (by rw [ii])
    exact ⟨fun y => ⟨fun y' => keep (Or.inl ⟨y, y'⟩), fun y' => ⟨sk1.1.1, take (Or.inl ⟨y, y'⟩)⟩⟩, fun y => ⟨fun y' => keep (Or.inr ⟨y, y'⟩), fun y' => ⟨sk1.1.1, take (Or.inr ⟨y, y'⟩)⟩⟩⟩
/-- the best command is picked -/
theorem f_pickX {l4 : Int} (h4 : i32 l4) (hE : Pe L W z g a R cn M) (hrs : Rsm M R cn S) (hW : ∀ x, Tpk z x → B ≤ W x) (b1 : 16 * S + 10 ≤ B) (hB : B ≤ 16000) (hft : fr < to) (hto : to ≤ 4096) (hcn : cn ≤ 512) (hbc : bc ≤ 4096) (hcm : ∀ c, fr ≤ c → c < to → cmdG M g cn bc c) : Ci G y_Sc_pick (d + 6) [vr z, vr g, vi fr, vi to, vi l4, vr a] M (fun x M' => pkQ L W z R cn S fr to M x M' ∧ BsV M R cn M' (mR M' z 9) (pkv l4 M R g fr (to - 1 - fr))) := by
  obtain ⟨i9, i10, ne⟩ := hE.1.2.2.bt
  obtain ⟨mu, hm, emu, k⟩ := f_weighX (G := G) (d := d) (B := B) (S := S) (hE.we i9) hrs (fun x hx => hW x (tw_pk i9 hx)) (by omega) hB (show fr < 4096 by omega) hcn hbc (hcm fr (Nat.le_refl _) hft)
  refine k_Sc_pick hE.1.1 ⟨by omega, by omega⟩ ⟨by omega, by omega⟩ h4 ⟨hE.1.2.2.1.1, k.mono (fun M2 qv => ?_)⟩
  obtain ⟨q, qv⟩ := qv
  have bv : BsV M R cn M2 (mR M z 9) (wr9 (rwv M R) (cmm M g fr)) := by
    have := wv_bs qv (show (0 : Int) < ((mu : Nat) : Int) by omega) q.2.2.2.1 (fun l => (q.2.2.2.2 l).2)
    unfold wr9
    rw [emu]
    exact this
  have rz : mR M2 z = mR M z := (q.1.2.2.1.2 z hE.1.2.2.1.2).2.2.2.1 (fun u => u.elim (fun u => (hE.1.2.1.nz hE.1.2.2.1.1 (hE.1.2.2.tpk z (tw_pk i9 u))).1 rfl) (fun u => u.2))
  obtain ⟨n1, sk, bt⟩ := wg_pk hE i9 hm q
  rw [show ((fr : Int) + 1) = ((fr + 1 : Nat) : Int) by first | rfl | omega]
  exact ⟨n1.ok, s_pk20 (d := d) h4 hE hrs hW b1 hB hto hcn hbc hcm to fr (fr + 1) M2 (by omega) (Nat.le_refl _) hft (by omega) (by omega) n1 sk (by rw [rz]; exact bt) (by
    rw [rz, show fr + 1 - 1 - fr = 0 by first | rfl | omega]
    exact bv)⟩
theorem f_pick {l4 : Int} (h4 : i32 l4) (hE : Pe L W z g a R cn M) (hrs : Rsm M R cn S) (hW : ∀ x, Tpk z x → B ≤ W x) (b1 : 16 * S + 10 ≤ B) (hB : B ≤ 16000) (hft : fr < to) (hto : to ≤ 4096) (hcn : cn ≤ 512) (hbc : bc ≤ 4096) (hcm : ∀ c, fr ≤ c → c < to → cmdG M g cn bc c) : Ci G y_Sc_pick (d + 6) [vr z, vr g, vi fr, vi to, vi l4, vr a] M (pkQ L W z R cn S fr to M) := (f_pickX h4 hE hrs hW b1 hB hft hto hcn hbc hcm).mono (fun x M' k => k.1)
/-- the kept worth against a fraction -/
theorem f_orderOfPicked (hO : mOk M) (hF : NF L W M) (hS : SK L M z) (hf : FrL L M f) (o1 : Osz M (mR M z 9) s) (o2 : Osz M f s) (nf : ¬ Tor z (f + 1) ∧ ¬ Tor z (f + 3)) (w9 : 2 * s + 1 ≤ W (z + 9)) (w11 : 2 * s + 1 ≤ W (z + 11)) : Ci G y_Sc_orderOfPicked (d + 6) [vr z, vr f] M (fun x M' => NL L W (Tor z) (fun _ => False) False z M M' ∧ (x = -1 ∨ x = 0 ∨ x = 1)) := by
  obtain ⟨i9, i10, ne⟩ := hS.bt
  have ot : ¬ Tor z (mR M z 9 + 1) ∧ ¬ Tor z (mR M z 9 + 3) := by
    unfold Tor
    rcases i9 with e | e <;> rw [e] <;> omega
  refine k_Sc_orderOfPicked hO ⟨hS.1.1, (f_Sc_order (d := d) ⟨hO, hF, hS, hS.frl i9, hf⟩ o1 o2 ot nf w9 w11).mono (fun x M' k => ?_)⟩
  exact ⟨by rcases k.2 with e | e | e <;> rw [e] <;> exact ⟨by decide, by decide⟩, k.1.ok, k⟩
end NBB
end
section
/-! New fractions. -/
section NBC
variable {G : mG} {d a z n m w S B u g R cn f F s i : Nat} {M M0 M' M1 M2 M3 : mM} {L L' : List Nat} {W : Nat → Nat}
theorem FA.ui {S R : Nat → Prop} {j : Nat} {x : Int} (ha : S a) (e : M' = mUI M a j x) : FA S R M M' := (show FI S M M' by rw [e]; exact FI.ui ha).fa
theorem s_Na_init (hO : mOk M) (h0 : 0 < a) (hk : mK M a = 10) (hz : a < mZ M) : Cv G y_Na_init (d + 1) [vr a] M (fun M' => mOk M' ∧ FA (fun x => x = a) (fun x => x = a) M M' ∧ (mZ M' = mZ M + 1 ∧ mS M' = mS M + 4) ∧ Nt M' a (mZ M) 4 0) := by
  refine k_Na_init hO ⟨h0, fun M2 e2 => ?_⟩
  have f2 : FA (fun x => x = a) (fun x => x = a) M M2 := FA.new e2
  refine ⟨by rw [(f2.2 a hz).1]; exact hk, fun M5 e5 M7 e7 => ?_⟩
  have f5 := f2.trans (FA.ur rfl e5)
  have f7 := f5.trans (FA.ui rfl e7)
  have z7 : mZ M7 = mZ M + 1 := by rw [e7, e5, e2]; rfl
  refine ⟨by rw [e7]; exact mOk_UI (by rw [e5]; exact mOk_UR (by rw [e2]; exact mOk_New hO)) ⟨by decide, by decide⟩, f7, ⟨z7, by rw [e7, e5, e2]; rfl⟩, ⟨by rw [(f7.2 a hz).1]; exact hk, ?_, ?_, ?_, ⟨by decide, by decide⟩, by omega, by omega, by omega⟩, by rw [mI_ui a 1 e7, if_pos ⟨rfl, rfl⟩]; rfl, by decide, fun j hj => absurd hj (by omega), fun u => absurd u (by omega)⟩
  · rw [e7]; show mR M5 a 0 = _; rw [e5, mR_UR, if_pos ⟨rfl, rfl⟩]
  · rw [e7]; show mK M5 (mZ M) = _; rw [e5]; show mK M2 (mZ M) = _; rw [e2, mK_New, if_pos rfl]
  · rw [e7]; show mN M5 (mZ M) = _; rw [e5]; show mN M2 (mZ M) = _; rw [e2, mN_New, if_pos rfl]
theorem s_Fr_init (hO : mOk M) (hk : mK M F = 11) (hz : mZ M = F + 1) (h0 : 0 < F) : Cv G y_Fr_init (d + 2) [vr F] M (fun M' => mOk M' ∧ FA (fun x => x = F) (fun x => x = F) M M' ∧ (mZ M' = F + 5 ∧ mS M' = mS M + 12) ∧ (mR M' F 0 = F + 1 ∧ mR M' F 1 = F + 3) ∧ Nt M' (F + 1) (F + 2) 4 0 ∧ Nt M' (F + 3) (F + 4) 4 0 ∧ mI M' F 2 = 1) := by
  refine k_Fr_init hO ⟨h0, fun M2 e2 => ?_⟩
  have f2 : FA (fun x => x = F) (fun x => x = F) M M2 := FA.new e2
  have z2 : mZ M2 = F + 2 := by rw [e2, mZ_New]; omega
  have s2 : mS M2 = mS M + 2 := by rw [e2, mS_New]
  have k2 : mK M2 (F + 1) = 10 := by rw [e2, mK_New, if_pos (by omega)]
  have o2 : mOk M2 := by rw [e2]; exact mOk_New hO
  rw [hz]
  refine (s_Na_init (d := d) (a := F + 1) o2 (by omega) k2 (by omega)).mono (fun M4 q => ?_)
  obtain ⟨o4, f4, ⟨z4, s4⟩, t4⟩ := q
  rw [z2] at t4 z4
  have F4 : FA (fun x => x = F) (fun x => x = F) M M4 := f2.trans2 f4 (fun x hx e => by have e' : x = F + 1 := e; omega) (fun x hx e => by have e' : x = F + 1 := e; omega)
  refine ⟨o4, by rw [(F4.2 F (by omega)).1]; exact hk, fun M8 e8 => ?_⟩
  have F8 : FA (fun x => x = F) (fun x => x = F) M M8 := F4.trans (FA.ur rfl e8)
  have z8 : mZ M8 = F + 3 := by rw [e8]; exact z4
  have o8 : mOk M8 := by rw [e8]; exact mOk_UR o4
  have s8 : mS M8 = mS M + 6 := by rw [e8, mS_UR, s4, s2]
  have t8 : Nt M8 (F + 1) (F + 2) 4 0 := t4.fa (S := fun _ => False) (R := fun x => x = F) (FA.ur rfl e8) (fun e => e) (fun e => e) (fun e => by have e' : F + 1 = F := e; omega)
  have r8 : mR M8 F 0 = F + 1 := by rw [e8, mR_UR, if_pos ⟨rfl, rfl⟩]
  rw [z8]
  intro M10 e10
  have g10 : FA (fun _ => False) (fun _ => False) M8 M10 := FA.new e10
  have z10 : mZ M10 = F + 4 := by rw [e10, mZ_New]; omega
  have k10 : mK M10 (F + 3) = 10 := by rw [e10, mK_New, if_pos (by omega)]
  have o10 : mOk M10 := by rw [e10]; exact mOk_New o8
  have t10 := t8.fa g10 (fun e => e) (fun e => e) (fun e => e)
  refine (s_Na_init (d := d) (a := F + 3) o10 (by omega) k10 (by omega)).mono (fun M12 q => ?_)
  obtain ⟨o12, f12, ⟨z12, s12⟩, t12⟩ := q
  rw [z10] at t12 z12
  have t12' := t10.fa f12 (fun e => by have e' : F + 1 = F + 3 := e; omega) (fun e => by have e' : F + 2 = F + 3 := e; omega) (fun e => by have e' : F + 1 = F + 3 := e; omega)
  have G12 : FA (fun x => x = F) (fun x => x = F) M8 M12 := (g10.mono (fun _ _ e => e.elim) (fun _ _ e => e.elim)).trans2 f12 (fun x hx e => by have e' : x = F + 3 := e; omega) (fun x hx e => by have e' : x = F + 3 := e; omega)
  have r12 : mR M12 F 0 = F + 1 := by
    rw [(f12.2 F (by omega)).2.2.2.1 (fun e => by have e' : F = F + 3 := e; omega), (g10.2 F (by omega)).2.2.2.1 (fun e => e)]
    exact r8
  refine ⟨o12, by rw [(G12.2 F (by omega)).1, (F8.2 F (by omega)).1]; exact hk, fun M16 e16 M18 e18 => ?_⟩
  have h16 : FA (fun x => x = F) (fun x => x = F) M12 M16 := FA.ur rfl e16
  have h18 : FA (fun x => x = F) (fun x => x = F) M16 M18 := FA.ui rfl e18
  have nF : ∀ {x : Nat}, x ≠ F → ¬ (fun x => x = F) x := fun h e => h e
  have u : ∀ {b X C s : Nat}, b ≠ F → X ≠ F → Nt M12 b X C s → Nt M18 b X C s := fun hb hX t => (t.fa h16 hb hX hb).fa h18 hb hX hb
  refine ⟨by rw [e18]; exact mOk_UI (by rw [e16]; exact mOk_UR o12) ⟨by decide, by decide⟩, ((F8.trans G12).trans h16).trans h18, ⟨by rw [e18, e16]; exact z12, ?_⟩, ⟨?_, ?_⟩, u (by omega) (by omega) t12', u (by omega) (by omega) t12, by rw [mI_ui F 2 e18, if_pos ⟨rfl, rfl⟩]⟩
  · have s10 : mS M10 = mS M8 + 2 := by rw [e10, mS_New]
    have s18 : mS M18 = mS M12 := by rw [e18, e16]; rfl
    omega
  · rw [e18]; show mR M16 F 0 = _; rw [e16, mR_UR, if_neg (fun u => absurd u.2 (by decide))]; exact r12
  · rw [e18]; show mR M16 F 1 = _; rw [e16, mR_UR, if_pos ⟨rfl, rfl⟩]
/-- the family grows by a fraction -/
theorem nf_grow {S R : Nat → Prop} (hF : NF L W M) (F1 : FA S R M M') (hS : ∀ x, x < mZ M → ¬ S x) (hR : ∀ x, x < mZ M → ¬ R x) (hf : mZ M ≤ F) (t1 : Nt M' (F + 1) (F + 2) 4 0) (t3 : Nt M' (F + 3) (F + 4) 4 0) (w1 : 2 ≤ W (F + 1) ∧ W (F + 1) ≤ 20000) (w3 : 2 ≤ W (F + 3) ∧ W (F + 3) ≤ 20000) : NF ((F + 1) :: (F + 3) :: L) W M' := by
  have lt : ∀ a, a ∈ L → a < F := fun a ha => Nat.lt_of_lt_of_le (hF.lt ha).1 hf
  have old : ∀ a, a ∈ L → Nt M' a (mR M a 0) (cp M a) (sz M a) := fun a ha => (hF.nt ha).fa F1 (hS _ (hF.lt ha).1) (hS _ (hF.lt ha).2) (hR _ (hF.lt ha).1)
  have r1 : mR M' (F + 1) 0 = F + 2 := t1.1.2.1
  have r3 : mR M' (F + 3) 0 = F + 4 := t3.1.2.1
  have ro : ∀ a, a ∈ L → mR M' a 0 = mR M a 0 ∧ mR M a 0 < F := fun a ha => ⟨(old a ha).1.2.1, Nat.lt_of_lt_of_le (hF.lt ha).2 hf⟩
  refine ⟨?_, fun a ha => ?_, fun a b ha hb u => ?_⟩
  · refine List.nodup_cons.2 ⟨fun h => ?_, List.nodup_cons.2 ⟨fun h => ?_, hF.1⟩⟩
    · rcases List.mem_cons.1 h with e | e
      · omega
      · have := lt _ e; omega
    · have := lt _ h; omega
  · rcases List.mem_cons.1 ha with e | e
    · rw [e]; exact ⟨t1.nn, by rw [t1.cp]; omega, w1⟩
    · rcases List.mem_cons.1 e with e | e
      · rw [e]; exact ⟨t3.nn, by rw [t3.cp]; omega, w3⟩
      · exact ⟨(old a e).nn, by rw [(old a e).cp]; exact (hF.2.1 a e).2.1, (hF.2.1 a e).2.2⟩
  · have cs : ∀ {a : Nat}, a ∈ (F + 1) :: (F + 3) :: L → a = F + 1 ∨ a = F + 3 ∨ a ∈ L := fun h => by
      rcases List.mem_cons.1 h with e | e
      · exact Or.inl e
      · rcases List.mem_cons.1 e with e | e
        · exact Or.inr (Or.inl e)
        · exact Or.inr (Or.inr e)
    rcases cs ha with e1 | e1 | e1 <;> rcases cs hb with e2 | e2 | e2
    · rw [e1, e2]
    · rw [e1, e2, r1, r3] at u; omega
    · rw [e1, r1, (ro b e2).1] at u; have := (ro b e2).2; omega
    · rw [e1, e2, r1, r3] at u; omega
    · rw [e1, e2]
    · rw [e1, r3, (ro b e2).1] at u; have := (ro b e2).2; omega
    · rw [e2, r1, (ro a e1).1] at u; have := (ro a e1).2; omega
    · rw [e2, r3, (ro a e1).1] at u; have := (ro a e1).2; omega
    · rw [(ro a e1).1, (ro b e2).1] at u
      exact hF.2.2 a b e1 e2 u
end NBC
end
section
/-! Tables of fractions grow. -/
section NBD
variable {G : mG} {d a z n m w S B u g R R' cn f F s i k K : Nat} {M M0 M' M1 M2 M3 : mM} {L L' L1 : List Nat} {W : Nat → Nat}
/-- a table of k fractions, at rest -/
def RwT (L : List Nat) (M : mM) (a R k : Nat) : Prop := mK M a = 13 ∧ mR M a 0 = R ∧ mK M R = 35 ∧ mN M R = k ∧ (Oc L M a ∧ Oc L M R) ∧ ∀ i, i < k → FrL L M (mR M R i)
theorem nf_ur {x j v : Nat} (hF : NF L W M) (hx : x ∉ L) (e : M' = mUR M x j v) : NF L W M' := by
  have ro : ∀ a, a ∈ L → mR M' a 0 = mR M a 0 := fun a ha => by rw [e, mR_UR, if_neg (fun u => hx (by rw [← u.1]; exact ha))]
  have nt' : ∀ a, a ∈ L → Nt M' a (mR M a 0) (cp M a) (sz M a) := fun a ha => (hF.nt ha).fa (S := fun _ => False) (R := fun y => y = x) (FA.ur rfl e) (fun u => u) (fun u => u) (fun u => hx (by rw [← u]; exact ha))
  exact ⟨hF.1, fun a ha => ⟨(nt' a ha).nn, by rw [(nt' a ha).cp]; exact (hF.2.1 a ha).2.1, (hF.2.1 a ha).2.2⟩, fun a b ha hb u => hF.2.2 a b ha hb (by rw [← ro a ha, ← ro b hb]; exact u)⟩
theorem FrP.fa {S R : Nat → Prop} (h : FrP M f) (F : FA S R M M') (hf : ¬ R f) : FrP M' f := by
  obtain ⟨h1, h2, h3⟩ := h
  exact ⟨by rw [(F.2 f h3).1]; exact h1, by rw [(F.2 f h3).2.2.2.1 hf]; exact h2, Nat.lt_of_lt_of_le h3 F.1.1⟩
/-- the new table on its way: e new fractions -/
def RvI (L : List Nat) (W : Nat → Nat) (M : mM) (R k K i : Nat) (L1 : List Nat) (M1 : mM) : Prop := (mOk M1 ∧ NF L1 W M1) ∧ FA (fun _ => False) (fun _ => False) M M1 ∧ (mK M1 (mZ M) = 35 ∧ mN M1 (mZ M) = K) ∧ (mZ M1 = mZ M + 1 + 5 * (i - k) ∧ mS M1 = mS M + K + 15 * (i - k)) ∧ (∀ j, j < i → mR M1 (mZ M) j = if j < k then mR M R j else mZ M + 1 + 5 * (j - k)) ∧ (∀ j, k ≤ j → j < i → FrL L1 M1 (mZ M + 1 + 5 * (j - k)) ∧ mI M1 (mZ M + 1 + 5 * (j - k)) 2 = 1) ∧ (Oc L1 M1 (mZ M) ∧ (∀ x, x ∈ L → x ∈ L1) ∧ (∀ x, x ∈ L1 → x ∈ L ∨ (mZ M < x ∧ mZ M < mR M1 x 0))) ∧ (L1.length = L.length + 2 * (i - k) ∧ psum (cp M1) L1 = psum (cp M) L + 8 * (i - k) ∧ psum (fun p => cp M1 p / 4) L1 = psum (fun p => cp M p / 4) L + 2 * (i - k))
/-- how a table grew -/
def rvG (L : List Nat) (M : mM) (R k : Nat) (L' : List Nat) (M' : mM) (R' k' : Nat) : Prop := R' = mZ M ∧ (k < k' ∧ k' ≤ 512 ∧ (2 * k ≤ k' ∨ k' = 512)) ∧ L'.length = L.length + 2 * (k' - k) ∧ (mZ M' = mZ M + 1 + 5 * (k' - k) ∧ mS M' = mS M + k' + 15 * (k' - k)) ∧ psum (cp M') L' = psum (cp M) L + 8 * (k' - k) ∧ psum (fun p => cp M' p / 4) L' = psum (fun p => cp M p / 4) L + 2 * (k' - k)
def rvQ (L : List Nat) (W : Nat → Nat) (a : Nat) (M : mM) (R k cnt : Nat) (M' : mM) : Prop := ∃ L' R' k', mOk M' ∧ NF L' W M' ∧ (∀ x, x ∈ L → x ∈ L') ∧ (∀ x, x ∈ L' → x ∈ L ∨ (mZ M < x ∧ mZ M < mR M' x 0)) ∧ RwT L' M' a R' k' ∧ (cnt ≤ k' ∧ k ≤ k') ∧ FA (fun _ => False) (fun x => x = a) M M' ∧ (∀ i, i ≠ 0 → mR M' a i = mR M a i) ∧ (∀ i, i < k → mR M' R' i = mR M R i) ∧ (∀ i, k ≤ i → i < k' → mR M' R' i = mZ M + 1 + 5 * (i - k) ∧ mI M' (mZ M + 1 + 5 * (i - k)) 2 = 1) ∧ ((M' = M ∧ L' = L ∧ R' = R ∧ k' = k) ∨ rvG L M R k L' M' R' k')
theorem s_rv_new (h : RvI L W M R k K i L1 M1) (hik : k ≤ i) (hiK : i < K) (hWn : ∀ x, mZ M < x → 2 ≤ W x ∧ W x ≤ 20000) (e33 : M2 = mNew M1 11 0 3) : Cv G y_Fr_init (d + 2) [vr (mZ M1)] M2 (fun M35 => mOk M35 ∧ (mK M35 (mZ M) = 35 ∧ ((0 : Int) ≤ i ∧ (i : Int) < (mN M35 (mZ M) : Int)) ∧ mK M35 (mZ M1) = 11 ∧ ∀ M41, M41 = mUR M35 (mZ M) i (mZ M1) → RvI L W M R k K (i + 1) ((mZ M1 + 1) :: (mZ M1 + 3) :: L1) M41)) := by
  obtain ⟨⟨o1, F1⟩, f1, ⟨kz, nz⟩, ⟨z1, s1⟩, rj, fj, ⟨oc, l1, l2⟩, ⟨g1, g2, g3⟩⟩ := h
  have f2 : FA (fun _ => False) (fun _ => False) M1 M2 := FA.new e33
  have z2 : mZ M2 = mZ M1 + 1 := by rw [e33, mZ_New]
  have s2 : mS M2 = mS M1 + 3 := by rw [e33, mS_New]
  have k2 : mK M2 (mZ M1) = 11 := by rw [e33, mK_New, if_pos rfl]
  have o2 : mOk M2 := by rw [e33]; exact mOk_New o1
  have eF : mZ M1 = mZ M + 1 + 5 * (i - k) := z1
  refine (s_Fr_init (d := d) (F := mZ M1) o2 k2 z2 (by omega)).mono (fun M35 q => ?_)
  obtain ⟨o35, f35, ⟨z35, s35⟩, ⟨r0, r1⟩, t1, t3, i2⟩ := q
  have F35 : FA (fun x => x = mZ M1) (fun x => x = mZ M1) M1 M35 := (f2.mono (fun _ _ e => e.elim) (fun _ _ e => e.elim)).trans f35
  have hlt : mZ M < mZ M1 := by omega
  have c35 := F35.2 (mZ M) hlt
  have k35 : mK M35 (mZ M1) = 11 := by rw [(f35.2 (mZ M1) (by omega)).1]; exact k2
  rw [c35.1, c35.2.1, nz]
  refine ⟨o35, kz, ⟨by omega, by omega⟩, k35, fun M41 e41 => ?_⟩
  have F41 : FA (fun _ => False) (fun x => x = mZ M) M35 M41 := FA.ur rfl e41
  have nL : mZ M ∉ (mZ M1 + 1) :: (mZ M1 + 3) :: L1 := fun u => by
    rcases List.mem_cons.1 u with e | e
    · omega
    · rcases List.mem_cons.1 e with e | e
      · omega
      · exact oc.2.1 e
  have nf35 : NF ((mZ M1 + 1) :: (mZ M1 + 3) :: L1) W M35 := nf_grow F1 F35 (fun x hx e => by have e' : x = mZ M1 := e; omega) (fun x hx e => by have e' : x = mZ M1 := e; omega) (Nat.le_refl _) t1 t3 (hWn _ (by omega)) (hWn _ (by omega))
  have nf41 := nf_ur nf35 nL e41
  have old : ∀ a, a ∈ L1 → cp M41 a = cp M1 a := fun a ha => by
    have z := F1.lt ha
    have t := (F1.nt ha).fa F35 (fun e => by have e' : a = mZ M1 := e; omega) (fun e => by have e' : mR M1 a 0 = mZ M1 := e; omega) (fun e => by have e' : a = mZ M1 := e; omega)
    exact (t.fa F41 (fun e => e) (fun e => e) (fun e => oc.2.1 (by rw [← e]; exact ha))).cp
  have n1 : mZ M1 + 1 ≠ mZ M := by omega
  have n3 : mZ M1 + 3 ≠ mZ M := by omega
  have c1 : cp M41 (mZ M1 + 1) = 4 := (t1.fa F41 (fun e => e) (fun e => e) n1).cp
  have c3 : cp M41 (mZ M1 + 3) = 4 := (t3.fa F41 (fun e => e) (fun e => e) n3).cp
  have fF : FrP M41 (mZ M1) := by
    have q : FrP M35 (mZ M1) := ⟨k35, ⟨r0, r1⟩, by omega⟩
    exact q.fa F41 (fun e => by have e' : mZ M1 = mZ M := e; omega)
  have z41 : mZ M41 = mZ M35 := by rw [e41]; rfl
  have s41 : mS M41 = mS M35 := by rw [e41]; rfl
  have ei : i + 1 - k = i - k + 1 := by omega
  refine ⟨⟨by rw [e41]; exact mOk_UR o35, nf41⟩, ?_, ⟨?_, ?_⟩, ⟨by omega, by omega⟩, fun j hj => ?_, fun j hj1 hj2 => ?_, ⟨⟨by omega, nL, fun a ha u => ?_⟩, fun x hx => List.mem_cons_of_mem _ (List.mem_cons_of_mem _ (l1 x hx)), fun x hx => ?_⟩, ?_⟩
  · exact (f1.trans2 F35 (fun x hx e => by have e' : x = mZ M1 := e; omega) (fun x hx e => by have e' : x = mZ M1 := e; omega)).trans2 F41 (fun _ _ e => e) (fun x hx e => by have e' : x = mZ M := e; omega)
  · rw [e41]; show mK M35 (mZ M) = _; rw [c35.1]; exact kz
  · rw [e41]; show mN M35 (mZ M) = _; rw [c35.2.1]; exact nz
  · rw [e41, mR_UR]
    by_cases e : j = i
    · rw [if_pos ⟨rfl, e⟩, if_neg (by omega), e]; omega
    · rw [if_neg (fun u => e u.2), c35.2.2.2.1 (fun e => by have e' : mZ M = mZ M1 := e; omega)]
      exact rj j (by omega)
  · by_cases e : j = i
    · rw [e, ← eF]
      exact ⟨⟨fF, List.mem_cons_self .., List.mem_cons_of_mem _ (List.mem_cons_self ..)⟩, by rw [e41]; exact i2⟩
    · obtain ⟨⟨p1, p2, p3⟩, p4⟩ := fj j hj1 (by omega)
      have lt : mZ M + 1 + 5 * (j - k) < mZ M1 := p1.2.2
      have q1 : FrP M35 (mZ M + 1 + 5 * (j - k)) := p1.fa F35 (fun e => by have e' : mZ M + 1 + 5 * (j - k) = mZ M1 := e; omega)
      refine ⟨⟨q1.fa F41 (fun e => by have e' : mZ M + 1 + 5 * (j - k) = mZ M := e; omega), List.mem_cons_of_mem _ (List.mem_cons_of_mem _ p2), List.mem_cons_of_mem _ (List.mem_cons_of_mem _ p3)⟩, ?_⟩
      rw [e41]
      show mI M35 _ 2 = 1
      rw [(F35.2 _ lt).2.2.2.2 (fun e => by have e' : mZ M + 1 + 5 * (j - k) = mZ M1 := e; omega)]
      exact p4
  · have z := nf41.lt ha
    rcases List.mem_cons.1 ha with e | e
    · rw [e, (t1.fa F41 (fun e => e) (fun e => e) n1).1.2.1] at u; omega
    · rcases List.mem_cons.1 e with e | e
      · rw [e, (t3.fa F41 (fun e => e) (fun e => e) n3).1.2.1] at u; omega
      · have t := (F1.nt e).fa F35 (fun e' => by have e'' : a = mZ M1 := e'; have := (F1.lt e).1; omega) (fun e' => by have e'' : mR M1 a 0 = mZ M1 := e'; have := (F1.lt e).2; omega) (fun e' => by have e'' : a = mZ M1 := e'; have := (F1.lt e).1; omega)
        have t' := t.fa F41 (fun e => e) (fun e => e) (fun e' => oc.2.1 (by rw [← e']; exact e))
        rw [t'.1.2.1] at u
        exact oc.2.2 a e u
  · rcases List.mem_cons.1 hx with e | e
    · exact Or.inr ⟨by omega, by rw [e, (t1.fa F41 (fun e => e) (fun e => e) n1).1.2.1]; omega⟩
    · rcases List.mem_cons.1 e with e | e
      · exact Or.inr ⟨by omega, by rw [e, (t3.fa F41 (fun e => e) (fun e => e) n3).1.2.1]; omega⟩
      · rcases l2 x e with q | q
        · exact Or.inl q
        · refine Or.inr ⟨q.1, ?_⟩
          have t := (F1.nt e).fa F35 (fun e' => by have e'' : x = mZ M1 := e'; have := (F1.lt e).1; omega) (fun e' => by have e'' : mR M1 x 0 = mZ M1 := e'; have := (F1.lt e).2; omega) (fun e' => by have e'' : x = mZ M1 := e'; have := (F1.lt e).1; omega)
          have t' := t.fa F41 (fun e => e) (fun e => e) (fun e' => oc.2.1 (by rw [← e']; exact e))
          rw [t'.1.2.1]
          exact q.2
  · refine ⟨by rw [List.length_cons, List.length_cons]; omega, ?_, ?_⟩
    · rw [psum, psum, c1, c3, psum_congr L1 old, g2]; omega
    · rw [psum, psum]
      show cp M41 (mZ M1 + 1) / 4 + (cp M41 (mZ M1 + 3) / 4 + psum (fun p => cp M41 p / 4) L1) = _
      rw [c1, c3, psum_congr (g := fun p => cp M1 p / 4) L1 (fun q hq => by show cp M41 q / 4 = cp M1 q / 4; rw [old q hq]), g3]
      omega
end NBD
end
section
/-! Tables of fractions: reserve, the whole. -/
section NBE
variable {G : mG} {d a z n m w S B u g R R' cn cnt f F s i k K : Nat} {M M0 M' M1 M2 M3 : mM} {L L' L1 : List Nat} {W : Nat → Nat}
theorem s_rv_cp (h : RvI L W M R k K i L1 M1) (hik : i < k) (hiK : i < K) {v : Nat} (hv : v = mR M R i) (e : M2 = mUR M1 (mZ M) i v) : RvI L W M R k K (i + 1) L1 M2 := by
  obtain ⟨⟨o1, F1⟩, f1, ⟨kz, nz⟩, ⟨z1, s1⟩, rj, fj, ⟨oc, l1, l2⟩, ⟨g1, g2, g3⟩⟩ := h
  have F2 : FA (fun _ => False) (fun x => x = mZ M) M1 M2 := FA.ur rfl e
  have ei : i + 1 - k = i - k := by omega
  have nf2 := nf_ur F1 oc.2.1 e
  have cc : ∀ a, a ∈ L1 → cp M2 a = cp M1 a := fun a ha => ((F1.nt ha).fa F2 (fun e => e) (fun e => e) (fun e' => oc.2.1 (by rw [← e']; exact ha))).cp
  have rr : ∀ a, a ∈ L1 → mR M2 a 0 = mR M1 a 0 := fun a ha => ((F1.nt ha).fa F2 (fun e => e) (fun e => e) (fun e' => oc.2.1 (by rw [← e']; exact ha))).1.2.1
  refine ⟨⟨by rw [e]; exact mOk_UR o1, nf2⟩, f1.trans2 F2 (fun _ _ e => e) (fun x hx e => by have e' : x = mZ M := e; omega), ⟨by rw [e]; exact kz, by rw [e]; exact nz⟩, ⟨by rw [e, ei]; exact z1, by rw [e, ei]; exact s1⟩, fun j hj => ?_, fun j hj1 hj2 => absurd hj2 (by omega), ⟨⟨by rw [e]; exact oc.1, oc.2.1, fun a ha u => oc.2.2 a ha (by rw [← rr a ha]; exact u)⟩, l1, fun x hx => (l2 x hx).imp (fun q => q) (fun q => ⟨q.1, by rw [rr x hx]; exact q.2⟩)⟩, by rw [ei]; exact g1, by rw [ei, psum_congr L1 cc]; exact g2, by rw [ei, psum_congr (g := fun p => cp M1 p / 4) L1 (fun q hq => by show cp M2 q / 4 = cp M1 q / 4; rw [cc q hq])]; exact g3⟩
  rw [e, mR_UR]
  by_cases c : j = i
  · rw [if_pos ⟨rfl, c⟩, c, if_pos hik, hv]
  · rw [if_neg (fun u => c u.2)]
    exact rj j (by omega)
/-- what stood apart stands apart -/
theorem rv_oc {x : Nat} (hF : NF L W M) (F1 : NF L1 W M1) (f1 : FA (fun _ => False) (fun _ => False) M M1) (l2 : ∀ x, x ∈ L1 → x ∈ L ∨ (mZ M < x ∧ mZ M < mR M1 x 0)) (hx : Oc L M x) : Oc L1 M1 x := by
  have zx := hx.1
  refine ⟨Nat.lt_of_lt_of_le hx.1 f1.1.1, fun u => ?_, fun b hb u => ?_⟩
  · rcases l2 x u with e | e
    · exact hx.2.1 e
    · omega
  · rcases l2 b hb with e | e
    · rw [(f1.2 b (hF.lt e).1).2.2.2.1 (fun e => e)] at u
      exact hx.2.2 b e u
    · omega
theorem oc_ur {x y j v : Nat} (h : Oc L M x) (hy : y ∉ L) (e : M' = mUR M y j v) : Oc L M' x := by
  refine ⟨by rw [e]; exact h.1, h.2.1, fun b hb u => h.2.2 b hb ?_⟩
  rw [e, mR_UR, if_neg (fun q => hy (by rw [← q.1]; exact hb))] at u
  exact u
/-- the loop -/
theorem s_rv32 (hF : NF L W M) (hT : RwT L M a R k) (hK : k < K ∧ K ≤ 512 ∧ (2 * k ≤ K ∨ K = 512)) (hc : cnt ≤ K) (hWn : ∀ x, mZ M < x → 2 ≤ W x ∧ W x ≤ 20000) : ∀ (t i : Nat) (L1 : List Nat) (M1 : mM), K ≤ i + t → i ≤ K → RvI L W M R k K i L1 M1 → h_Fs_reserve_32 G (d + 2) a (mZ M) i M1 (rvQ L W a M R k cnt) := by
  obtain ⟨t1, t2, t3, t4, ⟨t5, t6⟩, t7⟩ := id hT
  have za := t5.1
  have zR := t6.1
  intro t
  induction t with
  | zero =>
    intro i L1 M1 h1 h2 hI
    have ei : i = K := by omega
    subst ei
    obtain ⟨⟨o1, F1⟩, f1, ⟨kz, nz⟩, ⟨z1, s1⟩, rj, fj, ⟨oc, l1, l2⟩, ⟨g1, g2, g3⟩⟩ := hI
    refine k_Fs_reserve_32 o1 ⟨by omega, by omega⟩ ?_
    rw [kz, nz]
    refine ⟨rfl, ⟨by omega, by omega⟩, fun _ => ⟨by rw [(f1.2 a za).1]; exact t1, fun M20 e20 => ?_⟩, fun u => absurd (Int.le_refl _) u⟩
    have oa := rv_oc hF F1 f1 l2 t5
    have naL : a ∉ L1 := oa.2.1
    have F20 : FA (fun _ => False) (fun x => x = a) M1 M20 := FA.ur rfl e20
    have nf := nf_ur F1 naL e20
    have ff : FA (fun _ => False) (fun x => x = a) M M20 := (f1.mono (fun _ _ e => e) (fun _ _ e => e.elim)).trans F20
    have cc : ∀ b, b ∈ L1 → cp M20 b = cp M1 b := fun b hb => ((F1.nt hb).fa F20 (fun e => e) (fun e => e) (fun e => naL (by rw [← e]; exact hb))).cp
    have rz : mR M20 (mZ M) = mR M1 (mZ M) := by
      funext j
      rw [e20, mR_UR, if_neg (fun u => by omega)]
    have fr : ∀ {f : Nat}, FrP M1 f → FrP M20 f := fun hf => hf.fa F20 (fun e => by
      have e' := hf.1
      have e'' : mK M1 a = 13 := by rw [(f1.2 a za).1]; exact t1
      rw [e, e''] at e'
      omega)
    refine ⟨L1, mZ M, i, by rw [e20]; exact mOk_UR o1, nf, l1, fun x hx => (l2 x hx).imp (fun q => q) (fun q => ⟨q.1, by rw [((F1.nt hx).fa F20 (fun e => e) (fun e => e) (fun e => naL (by rw [← e]; exact hx))).1.2.1]; exact q.2⟩), ⟨by rw [(ff.2 a za).1]; exact t1, by rw [e20, mR_UR, if_pos ⟨rfl, rfl⟩], by rw [e20]; exact kz, by rw [e20]; exact nz, ⟨oc_ur oa naL e20, oc_ur oc naL e20⟩, fun j hj => ?_⟩, ⟨hc, by omega⟩, ff, fun j hj => by rw [e20, mR_UR, if_neg (fun u => hj u.2), (f1.2 a za).2.2.2.1 (fun e => e)], fun j hj => by rw [rz, rj j (by omega), if_pos hj], fun j hj1 hj2 => ⟨by rw [rz, rj j hj2, if_neg (by omega)], by rw [e20]; exact (fj j hj1 hj2).2⟩, Or.inr ⟨rfl, hK, g1, ⟨by rw [e20]; exact z1, by rw [e20]; exact s1⟩, by rw [psum_congr L1 cc]; exact g2, by rw [psum_congr (g := fun p => cp M1 p / 4) L1 (fun q hq => by show cp M20 q / 4 = cp M1 q / 4; rw [cc q hq])]; exact g3⟩⟩
    rw [rz, rj j hj]
    by_cases c : j < k
    · rw [if_pos c]
      obtain ⟨p1, p2, p3⟩ := t7 j c
      exact ⟨fr (p1.fa f1 (fun e => e)), l1 _ p2, l1 _ p3⟩
    · rw [if_neg c]
      obtain ⟨⟨p1, p2, p3⟩, -⟩ := fj j (by omega) hj
      exact ⟨fr p1, p2, p3⟩
  | succ t ih =>
    intro i L1 M1 h1 h2 hI
    by_cases ei : i = K
    · exact ih i L1 M1 (by omega) h2 hI
    have hiK : i < K := by omega
    obtain ⟨⟨o1, F1⟩, f1, ⟨kz, nz⟩, ⟨z1, s1⟩, rj, fj, -, -⟩ := id hI
    have ra : mR M1 a 0 = R := by rw [(f1.2 a za).2.2.2.1 (fun e => e)]; exact t2
    refine k_Fs_reserve_32 o1 ⟨by omega, by omega⟩ ?_
    rw [kz, nz, ra, (f1.2 R zR).1, (f1.2 R zR).2.1, t3, t4, Int.toNat_natCast, (f1.2 a za).1, show ((i : Int) + 1) = ((i + 1 : Nat) : Int) by first | rfl | omega]
    refine ⟨rfl, ⟨by omega, by omega⟩, fun u => absurd u (by omega), fun _ => ⟨t1, rfl, ⟨by omega, by omega⟩, fun u M33 e33 => (s_rv_new (d := d) hI (by omega) hiK hWn e33).mono (fun M35 q => ?_), fun u => ⟨⟨by omega, by omega⟩, ⟨by omega, by omega⟩, ?_, fun M46 e46 => ?_⟩⟩⟩
    · obtain ⟨q1, q2, q3, q4, q5⟩ := q
      exact ⟨q1, q2, q3, q4, fun M41 e41 => ih (i + 1) _ M41 (by omega) (by omega) (q5 M41 e41)⟩
    · rw [(f1.2 R zR).2.2.2.1 (fun e => e), (f1.2 _ (t7 i (by omega)).1.2.2).1]
      exact (t7 i (by omega)).1.1
    · refine ih (i + 1) L1 M46 (by omega) (by omega) (s_rv_cp hI (by omega) hiK ?_ e46)
      rw [(f1.2 R zR).2.2.2.1 (fun e => e)]
/-- room for cnt fractions -/
theorem f_Fs_reserve (hO : mOk M) (hF : NF L W M) (hT : RwT L M a R k) (hk : k ≤ 512) (hc : cnt ≤ 512) (hWn : ∀ x, mZ M < x → 2 ≤ W x ∧ W x ≤ 20000) : Cv G y_Fs_reserve (d + 3) [vr a, vi cnt] M (rvQ L W a M R k cnt) := by
  obtain ⟨t1, t2, t3, t4, ⟨t5, t6⟩, t7⟩ := id hT
  refine k_Fs_reserve hO ⟨by omega, by omega⟩ ?_
  rw [t2, t4]
  refine ⟨t1, t3, ⟨by omega, by omega⟩, fun u => ?_, fun u => ⟨⟨by omega, by omega⟩, ?_⟩⟩
  · exact ⟨L, R, k, hO, hF, fun _ h => h, fun _ h => Or.inl h, hT, ⟨by omega, Nat.le_refl _⟩, FA.refl, fun _ _ => rfl, fun _ _ => rfl, fun i h1 h2 => absurd h2 (by omega), Or.inl ⟨rfl, rfl, rfl, rfl⟩⟩
  · obtain ⟨K, eK, K1, K2⟩ : ∃ K : Nat, (if (if ((cnt : Nat) : Int) < 2 * ((k : Nat) : Int) then 2 * ((k : Nat) : Int) else ((cnt : Nat) : Int)) < 512 then (if ((cnt : Nat) : Int) < 2 * ((k : Nat) : Int) then 2 * ((k : Nat) : Int) else ((cnt : Nat) : Int)) else 512) = ((K : Nat) : Int) ∧ (k < K ∧ K ≤ 512 ∧ (2 * k ≤ K ∨ K = 512)) ∧ cnt ≤ K := by
      by_cases c1 : ((cnt : Nat) : Int) < 2 * ((k : Nat) : Int)
      · rw [if_pos c1]
        by_cases c2 : 2 * ((k : Nat) : Int) < 512
        · rw [if_pos c2]; exact ⟨2 * k, by omega, by omega, by omega⟩
        · rw [if_neg c2]; exact ⟨512, rfl, by omega, by omega⟩
      · rw [if_neg c1]
        by_cases c2 : ((cnt : Nat) : Int) < 512
        · rw [if_pos c2]; exact ⟨cnt, rfl, by omega, Nat.le_refl _⟩
        · rw [if_neg c2]; exact ⟨512, rfl, by omega, by omega⟩
    rw [eK, Int.toNat_natCast]
    refine ⟨⟨by omega, by omega⟩, fun M9 e9 => ?_⟩
    have f9 : FA (fun _ => False) (fun _ => False) M M9 := FA.new e9
    have nt9 : ∀ b, b ∈ L → Nt M9 b (mR M b 0) (cp M b) (sz M b) := fun b hb => (hF.nt hb).fa f9 (fun e => e) (fun e => e) (fun e => e)
    have nf9 : NF L W M9 := ⟨hF.1, fun b hb => ⟨(nt9 b hb).nn, by rw [(nt9 b hb).cp]; exact (hF.2.1 b hb).2.1, (hF.2.1 b hb).2.2⟩, fun b c hb hc u => hF.2.2 b c hb hc (by rw [← (nt9 b hb).1.2.1, ← (nt9 c hc).1.2.1]; exact u)⟩
    have cc : ∀ b, b ∈ L → cp M9 b = cp M b := fun b hb => (nt9 b hb).cp
    have nz : mZ M ∉ L := fun u => by have := (hF.lt u).1; omega
    refine s_rv32 (d := d) hF hT K1 K2 hWn K 0 L M9 (by omega) (by omega) ⟨⟨by rw [e9]; exact mOk_New hO, nf9⟩, f9, ⟨by rw [e9, mK_New, if_pos rfl], by rw [e9, mN_New, if_pos rfl]⟩, ⟨by rw [e9, mZ_New]; omega, by rw [e9, mS_New]; omega⟩, fun j hj => absurd hj (by omega), fun j _ hj => absurd hj (by omega), ⟨⟨by rw [e9, mZ_New]; omega, nz, fun b hb u => ?_⟩, fun _ h => h, fun _ h => Or.inl h⟩, by omega, ?_, ?_⟩
    · rw [(nt9 b hb).1.2.1] at u
      have := (hF.lt hb).2
      omega
    · rw [psum_congr L cc]; omega
    · rw [psum_congr (g := fun p => cp M p / 4) L (fun q hq => by show cp M9 q / 4 = cp M q / 4; rw [cc q hq])]; omega
end NBE
end
section
/-! Tables of fractions: begin. -/
section NBF
variable {G : mG} {d a z n m w S B u g R R' cn cnt f f' F s i k K : Nat} {M M0 M' M1 M2 M3 : mM} {L L' L1 : List Nat} {W : Nat → Nat} {T I : Nat → Prop} {r : Prop}
/-- two fractions lie apart -/
def Frd (f f' : Nat) : Prop := f ≠ f' ∧ f + 1 ≠ f' + 3 ∧ f + 3 ≠ f' + 1
theorem Frd.sym (h : Frd f f') : Frd f' f := ⟨fun e => h.1 e.symm, fun e => h.2.2 e.symm, fun e => h.2.1 e.symm⟩
theorem Frd.t2 (h : Frd f f') : ¬ T2 f' (f + 1) ∧ ¬ T2 f' (f + 3) := by
  obtain ⟨h1, h2, h3⟩ := h
  unfold T2
  omega
def RwD (M : mM) (R k : Nat) : Prop := ∀ i j, i < k → j < k → i ≠ j → Frd (mR M R i) (mR M R j)
/-- a table in its surroundings -/
def Te (L : List Nat) (W : Nat → Nat) (z g a R k : Nat) (M : mM) : Prop := (mOk M ∧ NF L W M ∧ SK L M z) ∧ (GK9 M g ∧ ∀ i, i ≤ 9 → Oc L M (g + i)) ∧ RwT L M a R k ∧ (∀ i, i < k → Rap z (mR M R i)) ∧ RwD M R k
theorem RwT.ws (h : RwT L M a R k) (hc : cn ≤ k) : Rws L M a R cn := by
  obtain ⟨h1, h2, h3, h4, h5, h6⟩ := h
  exact ⟨h1, h2, h3, by omega, h5, fun i hi => h6 i (by omega)⟩
theorem Te.pe (h : Te L W z g a R k M) (hc : cn ≤ k) : Pe L W z g a R cn M := ⟨h.1, h.2.1, h.2.2.1.ws hc, fun i hi => h.2.2.2.1 i (by omega)⟩
theorem Te.nl (h : Te L W z g a R k M) (q : NL L W T I r z M M') (hS : SK L M' z) (hI : ∀ x, I x → mK M x = 11) : Te L W z g a R k M' ∧ (∀ i, i ≤ 9 → mI M' (g + i) = mI M (g + i)) ∧ mR M' R = mR M R := by
  obtain ⟨t1, t2, t3, t4, t5⟩ := ((h.pe (Nat.le_refl _)).we (w := z + 18) (Or.inl rfl)).tb q hI
  obtain ⟨⟨h1, h2, h3⟩, h4, h5, h6, h7⟩ := h
  obtain ⟨p1, p2, p3, p4, p5, p6⟩ := h5
  obtain ⟨q1, q2, q3, q4, q5, q6⟩ := t4
  refine ⟨⟨⟨q.ok, q.nf, hS⟩, ⟨t1, t2⟩, ⟨q1, q2, q3, ?_, q5, q6⟩, fun i hi => by rw [t5]; exact h6 i hi, fun i j hi hj ij => by rw [t5]; exact h7 i j hi hj ij⟩, t3, t5⟩
  rw [(q.2.2.1.2 R p5.2.1).2.1]
  exact p4
/-- the numbers, and the cells, of the first n rows -/
def Trw (M : mM) (R n x : Nat) : Prop := ∃ i, i < n ∧ T2 (mR M R i) x
def Irw (M : mM) (R n x : Nat) : Prop := ∃ i, i < n ∧ x = mR M R i
theorem Te.trw (h : Te L W z g a R k M) (hn : n ≤ k) : ∀ t, Trw M R n t → t ∈ L := fun t ⟨i, hi, ht⟩ => (h.2.2.1.2.2.2.2.2 i (by omega)).t2 t ht
theorem Te.irw (h : Te L W z g a R k M) (hn : n ≤ k) : ∀ x, Irw M R n x → x < mZ M ∧ mK M x = 11 := fun x ⟨i, hi, e⟩ => by
  have := (h.2.2.1.2.2.2.2.2 i (by omega)).1
  rw [e]
  exact ⟨this.2.2, this.1⟩
/-- one row is written -/
theorem Te.row (h : Te L W z g a R k M) (hi : i < n) (hn : n ≤ k) (q : NL L W (T2 (mR M R i)) (fun x => x = mR M R i) False z M M') : NL L W (Trw M R n) (Irw M R n) False z M M' ∧ Te L W z g a R k M' ∧ (∀ i, i ≤ 9 → mI M' (g + i) = mI M (g + i)) ∧ mR M' R = mR M R := by
  have q' : NL L W (Trw M R n) (Irw M R n) False z M M' := q.mono h.1.2.1 (fun t ht => ⟨i, hi, ht⟩) (h.trw hn) (fun x e => ⟨i, hi, e⟩) (h.irw hn) (fun e => e)
  obtain ⟨e1, e2, e3⟩ := h.nl q' (q.sk h.1.2.1 h.1.2.2) (fun x e => (h.irw hn x e).2)
  exact ⟨q', e1, e2, e3⟩
/-- the other rows stay -/
theorem Te.keep (h : Te L W z g a R k M) {j : Nat} (hi : i < k) (hj : j < k) (ij : j ≠ i) (q : NL L W (T2 (mR M R i)) (fun x => x = mR M R i) False z M M') : nv M' (mR M R j + 1) = nv M (mR M R j + 1) ∧ nv M' (mR M R j + 3) = nv M (mR M R j + 3) ∧ mI M' (mR M R j) = mI M (mR M R j) := by
  have d := h.2.2.2.2 j i hj hi ij
  have f := h.2.2.1.2.2.2.2.2 j hj
  exact ⟨(q.num h.1.2.1 f.2.1 d.t2.1).2.2, (q.num h.1.2.1 f.2.2 d.t2.2).2.2, (q.frp h.1.2.1 f.1).2 d.1⟩
/-- after begin -/
def bgQ (M : mM) (R cn : Nat) : Prop := ∀ i, i < cn → (nv M (mR M R i + 1) = 0 ∨ nv M (mR M R i + 1) = 1) ∧ nv M (mR M R i + 3) = 1 ∧ mI M (mR M R i) 2 = 1
/-- targets are 1, others 0 -/
def bgV (M : mM) (g R cn : Nat) : Prop := ∀ i, i < cn → nv M (mR M R i + 1) = if mI M (g + 2) i = 3 then 1 else 0
theorem s_bg10 (h0 : Te L W z g a R k M0) (hcn : cn ≤ k) (hk : k ≤ 512) (e0 : mI M0 g 0 = ((cn : Nat) : Int)) : ∀ (t i : Nat) (M : mM), cn ≤ i + t → i ≤ cn → NL L W (Trw M0 R cn) (Irw M0 R cn) False z M0 M → Te L W z g a R k M → mR M R = mR M0 R → mI M g 0 = ((cn : Nat) : Int) → bgQ M R i → bgV M g R i → h_Fs_begin_10 G (d + 1) a g i M (fun M' => NL L W (Trw M0 R cn) (Irw M0 R cn) False z M0 M' ∧ bgQ M' R cn ∧ bgV M' g R cn) := by
  intro t
  induction t with
  | zero =>
    intro i M h1 h2 hN hT eR eg hb hw
    have ei : i = cn := by omega
    subst ei
    refine k_Fs_begin_10 hN.ok ⟨by omega, by omega⟩ ?_
    rw [eg]
    exact ⟨hT.2.1.1.1, fun _ => ⟨hN, hb, hw⟩, fun u => absurd (Int.le_refl _) u⟩
  | succ t ih =>
    intro i M h1 h2 hN hT eR eg hb hw
    by_cases ei : i = cn
    · exact ih i M (by omega) h2 hN hT eR eg hb hw
    have hi : i < cn := by omega
    obtain ⟨⟨hO, hF, hS⟩, ⟨⟨g1, ⟨r2, -⟩, kk, ⟨n2, -⟩⟩, -⟩, ⟨t1, t2, t3, t4, -, t6⟩, -, -⟩ := id hT
    refine k_Fs_begin_10 hN.ok ⟨by omega, by omega⟩ ?_
    rw [eg, t2, t4, r2, n2, Int.toNat_natCast]
    refine ⟨g1, fun u => absurd u (by omega), fun _ => ⟨t1, t3, ⟨by omega, by omega⟩, kk 2 (by decide) (by decide), ⟨by omega, by omega⟩, fun v20 e20 => ⟨(t6 i (by omega)).1.1, ?_⟩⟩⟩
    have v01 : v20 = 0 ∨ v20 = 1 := by rw [e20]; split <;> omega
    refine (f_Fr_put0 (d := d) ⟨by omega, by omega⟩ hO hF (t6 i (by omega)) hS.z9).mono (fun M26 q => ?_)
    obtain ⟨q1, q2, q3, q4⟩ := q
    obtain ⟨p1, p2, p3, p4⟩ := hT.row hi (by omega) q1
    have p1' : NL L W (Trw M0 R cn) (Irw M0 R cn) False z M M26 := by
      unfold Trw Irw at p1 ⊢
      rw [eR] at p1
      exact p1
    rw [show ((i : Int) + 1) = ((i + 1 : Nat) : Int) by first | rfl | omega]
    have g0 := p3 0 (by decide)
    rw [Nat.add_zero] at g0
    refine ⟨q1.ok, ih (i + 1) M26 (by omega) (by omega) (hN.trans p1') p2 (by rw [p4, eR]) (by rw [g0]; exact eg) (fun j hj => ?_) (fun j hj => ?_)⟩
    rotate_left
    · rw [p4, p3 2 (by decide)]
      by_cases c : j = i
      · rw [c, q2]
        exact e20
      · obtain ⟨k1, k2, k3⟩ := hT.keep (j := j) (by omega) (by omega) c q1
        rw [k1]
        exact hw j (by omega)
    rw [p4]
    by_cases c : j = i
    · rw [c]
      exact ⟨by rw [q2]; exact v01, q3, q4⟩
    · obtain ⟨k1, k2, k3⟩ := hT.keep (j := j) (by omega) (by omega) c q1
      rw [k1, k2, k3]
      exact hb j (by omega)
end NBF
end
section
/-! Tables of fractions: what growth leaves as it was; begin as a whole. -/
section NBG
variable {G : mG} {d a b z n m w S B u g R R' Rb kb cn cnt f f' F s i k k' K x : Nat} {M M0 M' M1 M2 M3 : mM} {L L' L1 : List Nat} {W : Nat → Nat} {T I : Nat → Prop} {r : Prop}
/-- a step of growth -/
def Gw (L : List Nat) (W : Nat → Nat) (a : Nat) (M : mM) (L' : List Nat) (M' : mM) : Prop := mOk M' ∧ (NF L W M ∧ NF L' W M') ∧ (∀ x, x ∈ L → x ∈ L') ∧ (∀ x, x ∈ L' → x ∈ L ∨ (mZ M < x ∧ mZ M < mR M' x 0)) ∧ FA (fun _ => False) (fun x => x = a) M M' ∧ (a ∉ L ∧ mK M a = 13)
theorem Gw.rf (h : Gw L W a M L' M') {b : Nat} (hb : b ∈ L) : mR M' b = mR M b ∧ nv M' b = nv M b ∧ sz M' b = sz M b := by
  obtain ⟨-, ⟨h1, h2⟩, h3, h4, h5, h6, -⟩ := h
  have z := h1.lt hb
  have e1 := (h5.2 b z.1).2.2.2.1 (fun e => h6 (by rw [← e]; exact hb))
  have e2 := (h5.2 b z.1).2.2.2.2 (fun e => e)
  have e3 := (h5.2 _ z.2).2.2.2.2 (fun e => e)
  have e4 : sz M' b = sz M b := by unfold sz; rw [e2]
  exact ⟨e1, by unfold nv; rw [e4, e1, e3], e4⟩
theorem Gw.oc (h : Gw L W a M L' M') (hx : Oc L M x) : Oc L' M' x := by
  have q := h
  obtain ⟨-, ⟨h1, h2⟩, h3, h4, h5, h6, -⟩ := h
  have zx := hx.1
  refine ⟨Nat.lt_of_lt_of_le hx.1 h5.1.1, fun u => ?_, fun b hb u => ?_⟩
  · rcases h4 x u with e | e
    · exact hx.2.1 e
    · omega
  · rcases h4 b hb with e | e
    · rw [(q.rf e).1] at u
      exact hx.2.2 b e u
    · omega
theorem Gw.frl (h : Gw L W a M L' M') (hf : FrL L M f) : FrL L' M' f ∧ mI M' f = mI M f := by
  obtain ⟨-, ⟨h1, h2⟩, h3, h4, h5, h6, h7⟩ := h
  have z := hf.1.2.2
  refine ⟨⟨hf.1.fa h5 (fun e => ?_), h3 _ hf.2.1, h3 _ hf.2.2⟩, (h5.2 f z).2.2.2.2 (fun e => e)⟩
  have := hf.1.1
  rw [e, h7] at this
  omega
theorem Gw.sk (h : Gw L W a M L' M') (hS : SK L M z) : SK L' M' z := by
  obtain ⟨⟨k1, k2⟩, k3, k4, ⟨k5, k6, k7⟩, ⟨k8, k9⟩, ⟨l1, l2, l3, l4, l5, l6, l7, l8⟩, ⟨l9, l10, l11, l12⟩⟩ := hS
  have f8 := (h.frl (f := z + 18) ⟨k8, l9, l10⟩).1
  have f9 := (h.frl (f := z + 23) ⟨k9, l11, l12⟩).1
  obtain ⟨-, ⟨h1, h2⟩, h3, h4, h5, h6, h7⟩ := h
  have ne : z ≠ a := fun e => by rw [e, h7] at k1; omega
  have rz := (h5.2 z k2).2.2.2.1 ne
  have le := h5.1.1
  refine ⟨⟨by rw [(h5.2 z k2).1]; exact k1, by omega⟩, by rw [rz]; exact k3, by rw [rz]; exact k4, ⟨by rw [(h5.2 _ k7).1]; exact k5, by rw [(h5.2 _ k7).2.1]; exact k6, by omega⟩, ⟨f8.1, f9.1⟩, ⟨h3 _ l1, h3 _ l2, h3 _ l3, h3 _ l4, h3 _ l5, h3 _ l6, h3 _ l7, h3 _ l8⟩, h3 _ l9, h3 _ l10, h3 _ l11, h3 _ l12⟩
theorem Gw.gk (h : Gw L W a M L' M') (hG : GK9 M g ∧ ∀ i, i ≤ 9 → Oc L M (g + i)) : (GK9 M' g ∧ ∀ i, i ≤ 9 → Oc L' M' (g + i)) ∧ ∀ i, i ≤ 9 → mI M' (g + i) = mI M (g + i) := by
  obtain ⟨h8, h9⟩ := hG
  have oc := fun i (hi : i ≤ 9) => h.oc (h9 i hi)
  obtain ⟨-, ⟨h1, h2⟩, h3, h4, h5, h6, h7⟩ := h
  have c := fun i (hi : i ≤ 9) => h5.2 (g + i) (h9 i hi).1
  have ne : g ≠ a := fun e => by have := h8.1; rw [e, h7] at this; omega
  have c0 := c 0 (by decide)
  rw [Nat.add_zero] at c0
  refine ⟨⟨⟨by rw [c0.1]; exact h8.1, by rw [c0.2.2.2.1 ne]; exact h8.2.1, fun i hi hi' => by rw [(c i hi').1]; exact h8.2.2.1 i hi hi', ?_⟩, oc⟩, fun i hi => (c i hi).2.2.2.2 (fun e => e)⟩
  rw [(c 2 (by decide)).2.1, (c 4 (by decide)).2.1, (c 6 (by decide)).2.1, (c 7 (by decide)).2.1, (c 8 (by decide)).2.1, (c 9 (by decide)).2.1]
  exact h8.2.2.2
/-- another table -/
theorem Gw.te (h : Gw L W a M L' M') (hT : Te L W z g b Rb kb M) (ab : b ≠ a) : Te L' W z g b Rb kb M' ∧ mR M' Rb = mR M Rb := by
  obtain ⟨⟨h1, h2, h3⟩, h4, ⟨t1, t2, t3, t4, ⟨t5, t6⟩, t7⟩, h6, h7⟩ := hT
  have sk := h.sk h3
  have gk := (h.gk h4).1
  have fr := fun i (hi : i < kb) => (h.frl (t7 i hi)).1
  have ob := h.oc t5
  have oR := h.oc t6
  obtain ⟨q0, ⟨q1, q2⟩, q3, q4, q5, q6, q7⟩ := h
  have cb := q5.2 b t5.1
  have cR := q5.2 Rb t6.1
  have nR : Rb ≠ a := fun e => by rw [e, q7] at t3; omega
  have eR := cR.2.2.2.1 nR
  exact ⟨⟨⟨q0, q2, sk⟩, gk, ⟨by rw [cb.1]; exact t1, by rw [cb.2.2.2.1 ab]; exact t2, by rw [cR.1]; exact t3, by rw [cR.2.1]; exact t4, ⟨ob, oR⟩, fun i hi => by rw [eR]; exact fr i hi⟩, fun i hi => by rw [eR]; exact h6 i hi, fun i j hi hj ij => by rw [eR]; exact h7 i j hi hj ij⟩, eR⟩
/-- the table that grew -/
theorem rv_te (hT : Te L W z g a R k M) (q : rvQ L W a M R k cnt M') : ∃ L' R' k', Gw L W a M L' M' ∧ Te L' W z g a R' k' M' ∧ (cnt ≤ k' ∧ k ≤ k') ∧ (∀ i, i < k → mR M' R' i = mR M R i) ∧ (∀ i, k ≤ i → i < k' → mR M' R' i = mZ M + 1 + 5 * (i - k) ∧ mI M' (mZ M + 1 + 5 * (i - k)) 2 = 1) ∧ ((M' = M ∧ L' = L ∧ R' = R ∧ k' = k) ∨ rvG L M R k L' M' R' k') := by
  obtain ⟨⟨h1, h2, h3⟩, h4, ⟨t1, t2, t3, t4, ⟨t5, t6⟩, t7⟩, h6, h7⟩ := id hT
  obtain ⟨L', R', k', q1, q2, q3, q4, q5, q6, q7, -, q9, q10, q11⟩ := q
  have gw : Gw L W a M L' M' := ⟨q1, ⟨h2, q2⟩, q3, q4, q7, t5.2.1, t1⟩
  have zS := h3.2.2.2.2.2.2
  have z26 : z + 26 < mZ M := (h2.lt zS.2.2.2).1
  have lt : ∀ i, i < k → mR M R i + 3 < mZ M := fun i hi => (h2.lt (t7 i hi).2.2).1
  refine ⟨L', R', k', gw, ⟨⟨q1, q2, gw.sk h3⟩, (gw.gk h4).1, q5, fun i hi => ?_, fun i j hi hj ij => ?_⟩, q6, q9, q10, q11⟩
  · by_cases c : i < k
    · rw [q9 i c]; exact h6 i c
    · rw [(q10 i (by omega) hi).1]
      unfold Rap Tpk T4 Tor T2
      omega
  · by_cases c1 : i < k
    · by_cases c2 : j < k
      · rw [q9 i c1, q9 j c2]; exact h7 i j c1 c2 ij
      · rw [q9 i c1, (q10 j (by omega) hj).1]
        have := lt i c1
        unfold Frd
        omega
    · by_cases c2 : j < k
      · rw [q9 j c2, (q10 i (by omega) hi).1]
        have := lt j c2
        unfold Frd
        omega
      · rw [(q10 i (by omega) hi).1, (q10 j (by omega) hj).1]
        unfold Frd
        omega
/-- what begin leaves behind -/
def begQ (L : List Nat) (W : Nat → Nat) (z g a R k cn : Nat) (M M' : mM) : Prop := ∃ L' R' k' M1, Gw L W a M L' M1 ∧ Te L' W z g a R' k' M1 ∧ (cn ≤ k' ∧ k ≤ k') ∧ ((M1 = M ∧ L' = L ∧ R' = R ∧ k' = k) ∨ rvG L M R k L' M1 R' k') ∧ (∀ i, i < k → mR M1 R' i = mR M R i) ∧ (∀ i, k ≤ i → i < k' → mR M1 R' i = mZ M + 1 + 5 * (i - k) ∧ mI M1 (mZ M + 1 + 5 * (i - k)) 2 = 1) ∧ NL L' W (Trw M1 R' cn) (Irw M1 R' cn) False z M1 M' ∧ bgQ M' R' cn ∧ bgV M' g R' cn
theorem f_begin (hT : Te L W z g a R k M) (hk : k ≤ 512) (hcn : cn ≤ 512) (e0 : mI M g 0 = ((cn : Nat) : Int)) (hWn : ∀ x, mZ M < x → 2 ≤ W x ∧ W x ≤ 20000) : Cv G y_Fs_begin (d + 4) [vr a, vr g] M (begQ L W z g a R k cn M) := by
  refine k_Fs_begin hT.1.1 ?_
  rw [e0]
  refine ⟨hT.2.1.1.1, hT.2.2.1.1, (f_Fs_reserve (d := d) hT.1.1 hT.1.2.1 hT.2.2.1 hk hcn hWn).mono (fun M3 q => ?_)⟩
  obtain ⟨L', R', k', gw, te, c, p1, p2, p3⟩ := rv_te hT q
  have g0 := (gw.gk hT.2.1).2 0 (by decide)
  rw [Nat.add_zero] at g0
  have k5 : k' ≤ 512 := by
    rcases p3 with ⟨-, -, -, e⟩ | ⟨-, e, -⟩ <;> omega
  have hm : ∀ {Q Q' : mM → Prop}, h_Fs_begin_10 G (d + 3) a g 0 M3 Q → (∀ M', Q M' → Q' M') → h_Fs_begin_10 G (d + 3) a g 0 M3 Q' := fun h hq => by
    unfold h_Fs_begin_10 at h ⊢
    exact mWm.mono h (fun r M' k => ⟨k.1, hq M' k.2⟩)
  refine ⟨gw.1, hm (s_bg10 (d := d + 2) te c.1 k5 (by rw [g0]; exact e0) cn 0 M3 (by omega) (by omega) (NL.refl gw.1 gw.2.1.2 (te.trw c.1) (te.irw c.1) te.1.2.2.z9) te rfl (by rw [g0]; exact e0) (fun i hi => absurd hi (by omega)) (fun i hi => absurd hi (by omega))) (fun M' q' => ⟨L', R', k', M3, gw, te, c, p3, p1, p2, q'.1, q'.2⟩)⟩
end NBG
end
