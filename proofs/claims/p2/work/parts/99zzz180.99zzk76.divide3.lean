section
/-! The family's division, as a whole. -/
section NAO
variable {G : mG} {d a b c q e Y Cy s n m X Cx w : Nat} {M M' M1 M2 M3 : mM} {v : Int} {L : List Nat} {W : Nat → Nat} {T T' : Nat → Prop}
theorem hm_dv {sc p t : Int} {Q Q' : mM → Prop} (h : h_Na_divide_134 G d a q e sc p t M Q) (hq : ∀ M', Q M' → Q' M') : h_Na_divide_134 G d a q e sc p t M Q' := by
  unfold h_Na_divide_134 at h ⊢
  exact mWm.mono h (fun r M' k => ⟨k.1, hq M' k.2⟩)
/-- a limb above the highest is cleared -/
theorem NF.wz (hF : NF L W M) (hO : mOk M) (ha : a ∈ L) (hc : sz M a < cp M a) (u : M' = mUI M (mR M a 0) (sz M a) 0) : NC L W (fun x => x = a) M M' ∧ mR M' a 0 = mR M a 0 ∧ nv M' a = nv M a ∧ sz M' a = sz M a ∧ cp M' a = cp M a ∧ mI M' (mR M a 0) (sz M a) = 0 := by
  have F : FI (fun x => x = mR M a 0) M M' := by rw [u]; exact FI.ui rfl
  have t := hF.nt ha
  have o : mOk M' := by rw [u]; exact mOk_UI hO ⟨by decide, by decide⟩
  have na := hF.na ha ha
  have ii : ∀ j, j < sz M a → mI M' (mR M a 0) j = mI M (mR M a 0) j := fun j hj => by rw [mI_ui _ j u, if_neg (fun y => by omega)]
  have t' : Nt M' a (mR M a 0) (cp M a) (sz M a) := ⟨t.1.fi F, by rw [F.2.2.2.2.2.2 a na]; exact t.2.1, t.2.2.1, fun j hj => by rw [ii j hj]; exact t.2.2.2.1 j hj, fun y => by rw [ii _ (by omega)]; exact t.2.2.2.2 y⟩
  refine ⟨hF.chg (fun t ht => by rw [ht]; exact ha) (F.mono (fun x y => Or.inr ⟨a, rfl, y⟩)) o (fun t ht => by rw [ht]; exact ⟨_, t'⟩), by rw [F.2.2.1], ?_, t'.sz, t'.cp, by rw [mI_ui _ _ u, if_pos ⟨rfl, rfl⟩]⟩
  rw [t'.nv]
  exact dn_cg _ ii
/-- from the loop on -/
theorem f_dvLoop {sc : Int} {P : Nat} (hsc : 1 ≤ sc ∧ sc < 1073741824) (hO : mOk M) (hF : NF L W M) (ha : a ∈ L) (hq : q ∈ L) (he : e ∈ L) (aq : a ≠ q) (ae : a ≠ e) (qe : q ≠ e) (hm : sz M a < cp M a) (z : mI M (mR M a 0) (sz M a) = 0) (hn : sz M e = n + 1) (n1 : 1 ≤ n) (eP : P + (n + 1) = sz M a + 1) (P0 : 0 < P) (hP : P ≤ cp M q) (top : 536870912 * 2 ^ (30 * n) ≤ nv M e) : h_Na_divide_134 G (d + 1) a q e sc P ((P : Int) - 1) M (fun M' => NC L W (fun x => x = a ∨ x = q) M M' ∧ ∃ R x, nv M a = nv M e * nv M' q + R ∧ (0 ≤ R ∧ R < nv M e) ∧ R = sc * nv M' a + x ∧ (0 ≤ x ∧ x < sc)) := by
  have ta := hF.nt ha
  have tq := hF.nt hq
  have te := hF.nt he
  rw [hn] at te
  have ev : nv M e = dn (mI M (mR M e 0)) (n + 1) := te.nv
  have hL : lim M (mR M a 0) (sz M a + 1) := fun j hj => by
    by_cases u : j < sz M a
    · exact ta.2.2.2.1 j u
    · rw [show j = sz M a by omega, z]; exact ⟨by decide, by decide⟩
  have V1 : 2 ^ (30 * n) ≤ nv M e := by have := p30p n; omega
  refine hm_dv (s_dv134 (P := P) (n := n + 1) (V := nv M e) (A := nv M a) (sc := sc) ⟨by omega, hsc.2⟩ ta.1 ta.2.1 (by omega) tq.1 hP eP (by omega) P0 te aq (hF.ne ha hq aq) ⟨hF.na he ha, hF.na he hq⟩ ⟨hF.ne he ha (fun u => ae u.symm), hF.ne he hq (fun u => qe u.symm)⟩ (show 1073741824 ≤ 2 * mI M (mR M e 0) n from dv_top te.2.2.2.1 (by rw [← ev]; exact top)) ev P M (Nat.le_refl _) hO FI.refl hL (fun j h1 h2 => absurd h2 (by omega)) (fun j h1 h2 => absurd h2 (by omega)) (dv_win hL z eP V1) ?_) (fun M' k => ?_)
  · rw [qf_top, Int.mul_zero, Int.add_zero, dn_s, z, Int.zero_mul, Int.add_zero]
    rfl
  · obtain ⟨o, F, sq, sa, R, x, Tq, Ta, h1, h2, h3, h4⟩ := k
    rw [← Tq.nv] at h1
    rw [← Ta.nv] at h3
    refine ⟨hF.chg (fun t ht => ht.elim (fun u => by rw [u]; exact ha) (fun u => by rw [u]; exact hq)) (F.mono (fun y u => ?_)) o (fun t ht => ?_), R, x, h1, h2, h3, h4⟩
    · rcases u with (u | u) | (u | u)
      · exact Or.inl (Or.inl u)
      · exact Or.inr ⟨a, Or.inl rfl, u⟩
      · exact Or.inl (Or.inr u)
      · exact Or.inr ⟨q, Or.inr rfl, u⟩
    · rcases ht with u | u
      · rw [u]; exact ⟨_, Ta⟩
      · rw [u]; exact ⟨_, Tq⟩
/-- from the first multiplication on -/
theorem f_dvLong {k : Nat} (hk : 2 ≤ k ∧ k ≤ 31) (hO : mOk M) (hF : NF L W M) (ha : a ∈ L) (hb : b ∈ L) (hq : q ∈ L) (he : e ∈ L) (ab : a ≠ b) (aq : a ≠ q) (ae : a ≠ e) (be : b ≠ e) (bq : b ≠ q) (qe : q ≠ e) (hn : sz M b = n + 1) (n1 : 1 ≤ n) (sba : sz M b ≤ sz M a) (wa : sz M a + 2 ≤ W a) (wq : sz M a + 1 ≤ W q) (we : sz M b + 1 ≤ W e) (q1 : 2 ^ (31 - k) ≤ mI M (mR M b 0) n) (q2 : mI M (mR M b 0) n < 2 ^ (32 - k)) : mK M e = 10 ∧ Cv G y_Na_put1 (d + 2) [vr e, vr b] M (fun M36 => mOk M36 ∧ (mK M36 e = 10 ∧ Cv G y_Na_multiply (d + 2) [vr e, vi (2 ^ (k - 2))] M36 (fun M40 => mOk M40 ∧ (mK M40 a = 10 ∧ Cv G y_Na_multiply (d + 2) [vr a, vi (2 ^ (k - 2))] M40 (fun M44 => mOk M44 ∧ (mK M44 a = 10 ∧ Cv G y_Na_reserve (d + 2) [vr a, vi ((mI M44 a 1) + 1)] M44 (fun M48 => mOk M48 ∧ (mK M48 a = 10 ∧ mK M48 (mR M48 a 0) = 30 ∧ ((0 : Int) ≤ mI M48 a 1 ∧ mI M48 a 1 < (mN M48 (mR M48 a 0) : Int)) ∧ ∀ M54, M54 = mUI M48 (mR M48 a 0) (Int.toNat (mI M48 a 1)) 0 → mK M54 e = 10 ∧ mK M54 q = 10 ∧ Cv G y_Na_reserve (d + 2) [vr q, vi (((mI M54 a 1) - (mI M54 e 1)) + 1)] M54 (fun M58 => mOk M58 ∧ (h_Na_divide_134 G (d + 2) a q e (2 ^ (k - 2)) (((mI M54 a 1) - (mI M54 e 1)) + 1) ((((mI M54 a 1) - (mI M54 e 1)) + 1) - 1) M58 (fun M' => NC L W (fun x => x = a ∨ x = q ∨ x = e) M M' ∧ nv M a = nv M b * nv M' q + nv M' a ∧ nv M' a < nv M b))))))))))) := by
  have hTL : ∀ t, (t = a ∨ t = q ∨ t = e) → t ∈ L := fun t u => by
    rcases u with u | u | u
    · rw [u]; exact ha
    · rw [u]; exact hq
    · rw [u]; exact he
  have ea : e ≠ a := fun u => ae u.symm
  have qa : q ≠ a := fun u => aq u.symm
  have eq : e ≠ q := fun u => qe u.symm
  obtain ⟨s1, s2⟩ := sc_bd hk
  have tb := hF.nt hb
  rw [hn] at tb
  have sct := sc_top (t := n) (V := nv M b) (low := dn (mI M (mR M b 0)) n) hk (by rw [tb.nv, dn_s]) ⟨dn_nn (fun j hj => tb.2.2.2.1 j (by omega)), dn_lt (fun j hj => tb.2.2.2.1 j (by omega))⟩ q1 q2
  refine ⟨hF.kd he, (f_put1 hO hF he hb (fun u => be u.symm) (by omega)).mono (fun M36 k36 => ?_)⟩
  obtain ⟨c1, v1⟩ := k36
  have F1 := c1.nf
  have se1 : sz M36 e ≤ sz M b := F1.szv he (by rw [v1]; exact hF.vlt hb)
  refine ⟨c1.ok, F1.kd he, (f_multiply ⟨s1, s2⟩ c1.ok F1 he (by omega)).mono (fun M40 k40 => ?_)⟩
  obtain ⟨c2, v2⟩ := k40
  have F2 := c2.nf
  rw [v1] at v2
  obtain ⟨-, -, -, a14, a15, -⟩ := c1.num hF ha ae
  obtain ⟨-, -, -, a24, a25, -⟩ := c2.num F1 ha ae
  refine ⟨c2.ok, F2.kd ha, (f_multiply ⟨s1, s2⟩ c2.ok F2 ha (by omega)).mono (fun M44 k44 => ?_)⟩
  obtain ⟨c3, v3⟩ := k44
  have F3 := c3.nf
  rw [a25, a15] at v3
  obtain ⟨-, -, -, e34, e35, -⟩ := c3.num F2 he ea
  have ma : sz M44 a ≤ sz M a + 1 := F3.szv ha (by
    rw [v3, p30, Int.mul_comm]
    have h1 := hF.vlt ha
    have h2 := hF.nn0 ha
    have h3 := Int.mul_le_mul_of_nonneg_left (show (2 : Int) ^ (k - 2) ≤ 1073741824 by omega) h2
    omega)
  have mb : sz M a ≤ sz M44 a := hF.szm F3 ha ha (by
    rw [v3]
    have h3 := Int.mul_le_mul_of_nonneg_right s1 (hF.nn0 ha)
    omega)
  have se2 : sz M44 e = n + 1 := by
    rw [e34]
    have u1 := F2.szv (n := n + 1) he (by rw [v2]; exact sct.1)
    have u2 := hF.szm F2 hb he (by
      rw [v2]
      have h3 := Int.mul_le_mul_of_nonneg_right s1 (hF.nn0 hb)
      omega)
    omega
  rw [(F3.nt ha).2.1, show ((sz M44 a : Nat) : Int) + 1 = ((sz M44 a + 1 : Nat) : Int) by omega]
  refine ⟨c3.ok, F3.kd ha, (f_reserve c3.ok F3 ha (by omega)).mono (fun M48 k48 => ?_)⟩
  obtain ⟨c4, v4, z4, w4⟩ := k48
  have F4 := c4.nf
  obtain ⟨-, -, -, e44, e45, -⟩ := c4.num F3 he ea
  rw [(F4.nt ha).2.1, Int.toNat_natCast]
  have cc : mN M48 (mR M48 a 0) = cp M48 a := rfl
  refine ⟨c4.ok, F4.kd ha, F4.ka ha, ⟨by omega, by omega⟩, fun M54 e54 => ?_⟩
  obtain ⟨c5, r5, v5, z5, p5, w5⟩ := F4.wz c4.ok ha (by omega) e54
  have F5 := c5.nf
  obtain ⟨-, -, -, e54', e55, -⟩ := c5.num F4 he ea
  have s54 : sz M54 e = n + 1 := by omega
  obtain ⟨P, eP⟩ : ∃ P, P + (n + 1) = sz M54 a + 1 := ⟨sz M54 a + 1 - (n + 1), by omega⟩
  rw [(F5.nt ha).2.1, (F5.nt he).2.1, s54, show (((sz M54 a : Nat) : Int) - ((n + 1 : Nat) : Int)) + 1 = ((P : Nat) : Int) by omega]
  refine ⟨F5.kd he, F5.kd hq, (f_reserve c5.ok F5 hq (by omega)).mono (fun M58 k58 => ?_)⟩
  obtain ⟨c6, v6, z6, w6⟩ := k58
  have F6 := c6.nf
  obtain ⟨a61, -, a63, a64, a65, a66⟩ := c6.num F5 ha aq
  obtain ⟨-, -, -, e64, e65, -⟩ := c6.num F5 he eq
  have ve : nv M58 e = 2 ^ (k - 2) * nv M b := by rw [e65, e55, e45, e35, v2]
  have va : nv M58 a = 2 ^ (k - 2) * nv M a := by rw [a65, v5, v4, v3]
  refine ⟨c6.ok, hm_dv (f_dvLoop (d := d + 1) (P := P) (n := n) ⟨s1, s2⟩ c6.ok F6 ha hq he aq ae qe (by omega) (by rw [a61, a64, r5, z5, ← r5, a63, r5]; exact w5) (by omega) n1 (by omega) (by omega) w6 (by rw [ve]; exact sct.2)) (fun M' k' => ?_)⟩
  obtain ⟨c7, R, x, h1, h2, h3, h4⟩ := k'
  rw [va, ve] at h1
  rw [ve] at h2
  obtain ⟨r1, r2⟩ := dv_fin (by omega) h1 h2 h3 h4
  have C1 := c1.mono (T' := fun x => x = a ∨ x = q ∨ x = e) (fun _ u => Or.inr (Or.inr u)) hTL hF
  have C2 := c2.mono (T' := fun x => x = a ∨ x = q ∨ x = e) (fun _ u => Or.inr (Or.inr u)) hTL F1
  have C3 := c3.mono (T' := fun x => x = a ∨ x = q ∨ x = e) (fun _ u => Or.inl u) hTL F2
  have C4 := c4.mono (T' := fun x => x = a ∨ x = q ∨ x = e) (fun _ u => Or.inl u) hTL F3
  have C5 := c5.mono (T' := fun x => x = a ∨ x = q ∨ x = e) (fun _ u => Or.inl u) hTL F4
  have C6 := c6.mono (T' := fun x => x = a ∨ x = q ∨ x = e) (fun _ u => Or.inr (Or.inl u)) hTL F5
  have C7 := c7.mono (T' := fun x => x = a ∨ x = q ∨ x = e) (fun _ u => u.elim Or.inl (fun u => Or.inr (Or.inl u))) hTL F6
  exact ⟨(((((C1.trans C2).trans C3).trans C4).trans C5).trans C6).trans C7, r1, r2⟩
/-- quotient and rest -/
theorem f_divide (hO : mOk M) (hF : NF L W M) (ha : a ∈ L) (hb : b ∈ L) (hq : q ∈ L) (he : e ∈ L) (ab : a ≠ b) (aq : a ≠ q) (ae : a ≠ e) (bq : b ≠ q) (be : b ≠ e) (qe : q ≠ e) (hb0 : 0 < nv M b) (wa : sz M a + 2 ≤ W a) (wq : sz M a + 1 ≤ W q) (we : sz M b + 1 ≤ W e) : Cv G y_Na_divide (d + 3) [vr a, vr b, vr q, vr e] M (fun M' => NC L W (fun x => x = a ∨ x = q ∨ x = e) M M' ∧ nv M a = nv M b * nv M' q + nv M' a ∧ nv M' a < nv M b) := by
  have hTL : ∀ t, (t = a ∨ t = q ∨ t = e) → t ∈ L := fun t u => by
    rcases u with u | u | u
    · rw [u]; exact ha
    · rw [u]; exact hq
    · rw [u]; exact he
  have b0 : sz M b ≠ 0 := fun u => by have := (hF.sz0 hb).1 u; omega
  refine k_Na_divide hO ⟨hF.kd hq, (f_put0 ⟨by decide, by decide⟩ hO hF hq).mono (fun M2 k2 => ?_)⟩
  obtain ⟨c1, v1⟩ := k2
  have F1 := c1.nf
  have C1 := c1.mono (T' := fun x => x = a ∨ x = q ∨ x = e) (fun _ u => Or.inr (Or.inl u)) hTL hF
  obtain ⟨-, -, -, a14, a15, -⟩ := c1.num hF ha aq
  obtain ⟨-, -, -, b14, b15, -⟩ := c1.num hF hb bq
  have tb := F1.nt hb
  rw [tb.2.1, (F1.nt ha).2.1]
  refine ⟨c1.ok, F1.kd hb, fun _ => F1.kd ha, fun y => ⟨C1, ?_, ?_⟩, fun y => ⟨fun y1 => ?_, fun y1 => ?_⟩⟩
  · rw [v1, Int.mul_zero, Int.zero_add, a15]
  · rw [a15]
    exact hF.lts ha hb (by omega)
  · obtain ⟨k1, k2⟩ := f_dvOne (G := G) (d := d) c1.ok F1 ha hb hq ab aq bq (by omega) (by omega)
    refine ⟨k1, k2.mono (fun M16 ⟨k3, k4, k5, k6, k7, k8⟩ => ⟨k3, k4, k5, k6, k7, k8.mono (fun x M23 ⟨k9, k10, k11, k12⟩ => ⟨k9, k10, k11, k12.mono (fun M27 ⟨k13, k14, k15, k16⟩ => ⟨k13, C1.trans (k14.mono (fun _ u => u.elim Or.inl (fun u => Or.inr (Or.inl u))) hTL F1), ?_, ?_⟩)⟩)⟩)⟩
    · rw [← a15, ← b15]; exact k15
    · rw [← b15]; exact k16
  · obtain ⟨n, hn⟩ : ∃ n, sz M2 b = n + 1 := ⟨sz M2 b - 1, by omega⟩
    rw [hn] at tb
    have tn := tb.2.2.2.1 n (by omega)
    have t0 : mI M2 (mR M2 b 0) n ≠ 0 := tb.2.2.2.2 (by omega)
    have cc : mN M2 (mR M2 b 0) = cp M2 b := rfl
    have sc := F1.sc hb
    rw [hn, show Int.toNat (((n + 1 : Nat) : Int) - 1) = n by omega]
    refine ⟨F1.ka hb, ⟨by omega, by omega⟩, (s_nlz (by omega) (l30i tn) c1.ok).mono (fun x M32 g => ?_)⟩
    obtain ⟨eM, k, ek, k31, q1, q2⟩ := g
    have kk : 31 - k < 30 := p2l (by rw [show (2 : Int) ^ 30 = 1073741824 by decide]; exact Int.lt_of_le_of_lt q1 tn.2)
    rw [eM, ek, show ((k : Nat) : Int) - 2 = ((k - 2 : Nat) : Int) by omega, j_sh1 (k - 2) (by omega)]
    obtain ⟨k1, k2⟩ := f_dvLong (G := G) (d := d) (k := k) ⟨by omega, by omega⟩ c1.ok F1 ha hb hq he ab aq ae be bq qe hn (by omega) (by omega) (by omega) (by omega) (by omega) q1 q2
    refine ⟨⟨by omega, by omega⟩, c1.ok, k1, k2.mono (fun M36 ⟨k3, k4, k5⟩ => ⟨k3, k4, k5.mono (fun M40 ⟨k6, k7, k8⟩ => ⟨k6, k7, k8.mono (fun M44 ⟨k9, k10, k11⟩ => ⟨k9, k10, k11.mono (fun M48 ⟨k12, k13, k14, k15, k16⟩ => ⟨k12, k13, k14, k15, fun M54 e54 => ?_⟩)⟩)⟩)⟩)⟩
    obtain ⟨k17, k18, k19⟩ := k16 M54 e54
    refine ⟨k17, k18, k19.mono (fun M58 ⟨k20, k21⟩ => ⟨k20, hm_dv k21 (fun M' ⟨k22, k23, k24⟩ => ⟨C1.trans k22, ?_, ?_⟩)⟩)⟩
    · rw [← a15, ← b15]; exact k23
    · rw [← b15]; exact k24
end NAO
end
section
/-! The family: both numbers become sums of their multiples. -/
section NAP
variable {G : mG} {d a b c q e Y Cy s n m X Cx w : Nat} {M M' M1 M2 M3 : mM} {v : Int} {L : List Nat} {W : Nat → Nat} {T T' : Nat → Prop}
theorem cb_bd {f g u v c : Int} (hf : -1073741824 < f ∧ f < 1073741824) (hg : -1073741824 < g ∧ g < 1073741824) (hu : 0 ≤ u ∧ u < 1073741824) (hv : 0 ≤ v ∧ v < 1073741824) (hc : -4294967296 ≤ c ∧ c ≤ 4294967296) : i64 (c + (f * u + g * v)) ∧ -4294967296 ≤ (c + (f * u + g * v)) / 1073741824 ∧ (c + (f * u + g * v)) / 1073741824 ≤ 4294967296 := by
  have a1 : f * u ≤ 1073741823 * u := Int.mul_le_mul_of_nonneg_right (by omega) hu.1
  have a2 : -1073741823 * u ≤ f * u := Int.mul_le_mul_of_nonneg_right (by omega) hu.1
  have a3 : g * v ≤ 1073741823 * v := Int.mul_le_mul_of_nonneg_right (by omega) hv.1
  have a4 : -1073741823 * v ≤ g * v := Int.mul_le_mul_of_nonneg_right (by omega) hv.1
  unfold i64
  omega
theorem c32 {c : Int} (h : -4294967296 ≤ c ∧ c ≤ 4294967296) : i64 c := ⟨by omega, by omega⟩
/-- small factors -/
def fac (x : Int) : Prop := -1073741824 < x ∧ x < 1073741824
def cbQ (M : mM) (a Y Cy b X Cx : Nat) (u v : Int) (M' : mM) : Prop := mOk M' ∧ FI (fun x => (x = a ∨ x = Y) ∨ (x = b ∨ x = X)) M M' ∧ ∃ s t, Nt M' a Y Cy s ∧ Nt M' b X Cx t ∧ dn (mI M' Y) s = u ∧ dn (mI M' X) t = v
theorem s_cb32 {f0 f1 f2 f3 A B : Int} (h : Nl M a Y Cy) (k : Nl M b X Cx) (hn : n ≤ Cy) (hm : n ≤ Cx) (ab : a ≠ b) (YX : Y ≠ X) (kc : mK M c = 33) (nc : mN M c = 4) (e0 : mL M c 0 = f0) (e1 : mL M c 1 = f1) (e2 : mL M c 2 = f2) (e3 : mL M c 3 = f3) (b0 : fac f0) (b1 : fac f1) (b2 : fac f2) (b3 : fac f3) (hL : lim M Y n) (hX : lim M X n) (eA : A = dn (mI M Y) n) (eB : B = dn (mI M X) n) (g0 : 0 ≤ f0 * A + f1 * B ∧ f0 * A + f1 * B < 2 ^ (30 * n)) (g1 : 0 ≤ f2 * A + f3 * B ∧ f2 * A + f3 * B < 2 ^ (30 * n)) : ∀ (t i : Nat) (c1 c2 : Int) (M1 : mM), n ≤ i + t → i ≤ n → (-4294967296 ≤ c1 ∧ c1 ≤ 4294967296) → (-4294967296 ≤ c2 ∧ c2 ≤ 4294967296) → mOk M1 → FI (fun x => x = Y ∨ x = X) M M1 → lim M1 Y n → lim M1 X n → (∀ j, i ≤ j → mI M1 Y j = mI M Y j) → (∀ j, i ≤ j → mI M1 X j = mI M X j) → dn (mI M1 Y) n + c1 * 2 ^ (30 * i) = dn (mI M Y) n - dn (mI M Y) i + f0 * dn (mI M Y) i + f1 * dn (mI M X) i → dn (mI M1 X) n + c2 * 2 ^ (30 * i) = dn (mI M X) n - dn (mI M X) i + f2 * dn (mI M Y) i + f3 * dn (mI M X) i → h_Na_combine_32 G d a b c n c1 c2 i M1 (cbQ M a Y Cy b X Cx (f0 * A + f1 * B) (f2 * A + f3 * B)) := by
  have aY : a ≠ Y := h.2.2.2.2.2.1
  have bX : b ≠ X := k.2.2.2.2.2.1
  have aX : a ≠ X := fun u => by have h1 := h.1; have h2 := k.2.2.1; rw [u, h2] at h1; omega
  have bY : b ≠ Y := fun u => by have h1 := k.1; have h2 := h.2.2.1; rw [u, h2] at h1; omega
  have cb := h.2.2.2.2.1.2
  intro t
  induction t with
  | zero =>
    intro i c1 c2 M1 h1 h2 p1 p2 o F LY LX EY EX V1 V2
    have ei : i = n := by omega
    subst ei
    rw [show dn (mI M Y) i - dn (mI M Y) i + f0 * dn (mI M Y) i + f1 * dn (mI M X) i = f0 * A + f1 * B by rw [eA, eB]; omega] at V1
    rw [show dn (mI M X) i - dn (mI M X) i + f2 * dn (mI M Y) i + f3 * dn (mI M X) i = f2 * A + f3 * B by rw [eA, eB]; omega] at V2
    have z1 := tm_hi (V := 0) ⟨dn_nn LY, dn_lt LY⟩ V1.symm g0
    have z2 := tm_hi (V := 0) ⟨dn_nn LX, dn_lt LX⟩ V2.symm g1
    rw [z1, Int.zero_mul, Int.add_zero] at V1
    rw [z2, Int.zero_mul, Int.add_zero] at V2
    refine k_Na_combine_32 o ⟨by omega, by omega⟩ (c32 p1) (c32 p2) ⟨by omega, by omega⟩ ⟨fun _ => ⟨by rw [F.1]; exact h.1, (s_Na_trim o (h.fi F) hn LY).mono (fun M13 q => ?_)⟩, fun y => absurd (Int.le_refl _) y⟩
    obtain ⟨o13, F13, -, s, -, T13, v13⟩ := q
    have F2 := (F.mono (S' := fun x => (x = a ∨ x = Y) ∨ (x = b ∨ x = X)) (fun _ u => u.elim (fun u => Or.inl (Or.inr u)) (fun u => Or.inr (Or.inr u)))).trans (F13.mono (fun _ u => Or.inl (Or.inl u)))
    have x13 : mI M13 X = mI M1 X := F13.2.2.2.2.2.2 X (fun u => aX u.symm)
    refine ⟨o13, by rw [F2.1]; exact k.1, (s_Na_trim o13 (k.fi F2) hm (fun j hj => by rw [x13]; exact LX j hj)).mono (fun M17 q => ?_)⟩
    obtain ⟨o17, F17, -, s', -, T17, v17⟩ := q
    have T13' := T13.fi F17 (fun u => ab u) (fun u => bY u.symm)
    refine ⟨o17, o17, F2.trans (F17.mono (fun _ u => Or.inr (Or.inl u))), s, s', T13', T17, ?_, ?_⟩
    · rw [F17.2.2.2.2.2.2 Y (fun u => bY u.symm), v13, V1]
    · rw [v17, x13, V2]
  | succ t ih =>
    intro i c1 c2 M1 h1 h2 p1 p2 o F LY LX EY EX V1 V2
    by_cases ei : i = n
    · exact ih i c1 c2 M1 (by omega) h2 p1 p2 o F LY LX EY EX V1 V2
    have li : i < n := by omega
    have yi : mI M1 Y i = mI M Y i := EY i (Nat.le_refl _)
    have xi : mI M1 X i = mI M X i := EX i (Nat.le_refl _)
    obtain ⟨w1, w2, w3⟩ := cb_bd b0 b1 (hL i li) (hX i li) p1
    obtain ⟨u1, u2, u3⟩ := cb_bd b2 b3 (hL i li) (hX i li) p2
    refine k_Na_combine_32 o ⟨by omega, by omega⟩ (c32 p1) (c32 p2) ⟨by omega, by omega⟩ ⟨fun y => absurd y (by omega), fun y => ?_⟩
    rw [F.1, F.2.1, F.2.2.1, F.2.2.2.1, h.2.1, h.2.2.2.1, k.2.1, k.2.2.2.1, nc, e0, e1, e2, e3, Int.toNat_natCast, yi, xi, j_and, j_and, j_shr w1, j_shr u1]
    refine ⟨h.1, h.2.2.1, by omega, k.1, k.2.2.1, by omega, kc, ⟨by decide, by decide⟩, ⟨by decide, by decide⟩, ⟨by decide, by decide⟩, ⟨by decide, by decide⟩, by omega, m30i _, fun M33 e33 => ?_⟩
    have F33 : FI (fun x => x = Y) M1 M33 := by rw [e33]; exact FI.ui rfl
    rw [F33.1, F33.2.1, F33.2.2.1, F.1, F.2.1, F.2.2.1, k.2.1, k.2.2.2.1]
    refine ⟨k.2.2.1, by omega, m30i _, fun M38 e38 => ?_⟩
    have F38 : FI (fun x => x = X) M33 M38 := by rw [e38]; exact FI.ui rfl
    have y38 : mI M38 Y = mI M33 Y := F38.2.2.2.2.2.2 Y YX
    have x33 : mI M33 X = mI M1 X := F33.2.2.2.2.2.2 X (fun u => YX u.symm)
    have o33 : mOk M33 := by rw [e33]; exact mOk_UI o (m30i _)
    rw [show ((i : Int) + 1) = ((i + 1 : Nat) : Int) by omega]
    have d1 := c_st (i := i) (dn_ui (M' := M33) (n := n) li e33)
    have d2 := c_st (i := i) (dn_ui (M' := M38) (n := n) li e38)
    rw [yi] at d1
    rw [x33, xi] at d2
    refine ih (i + 1) _ _ M38 (by omega) (by omega) ⟨w2, w3⟩ ⟨u2, u3⟩ (by rw [e38]; exact mOk_UI o33 (m30i _)) ((F.trans (F33.mono (fun _ u => Or.inl u))).trans (F38.mono (fun _ u => Or.inr u))) (fun j hj => by rw [y38]; exact lim_ui LY (m30 _) e33 j hj) (lim_ui (fun j hj => by rw [x33]; exact LX j hj) (m30 _) e38) (fun j hj => by rw [y38, mI_ui Y j e33, if_neg (fun u => by omega)]; exact EY j (by omega)) (fun j hj => by rw [mI_ui X j e38, if_neg (fun u => by omega), x33]; exact EX j (by omega)) ?_ ?_
    · rw [y38, d1, dn_s (mI M Y) i, dn_s (mI M X) i]
      exact al_cmb V1
    · rw [d2, dn_s (mI M Y) i, dn_s (mI M X) i]
      exact al_cmb2 V2
theorem hm_cb {l c1 c2 i : Int} {Q Q' : mM → Prop} (h : h_Na_combine_32 G d a b c l c1 c2 i M Q) (hq : ∀ M', Q M' → Q' M') : h_Na_combine_32 G d a b c l c1 c2 i M Q' := by
  unfold h_Na_combine_32 at h ⊢
  exact mWm.mono h (fun r M' k => ⟨k.1, hq M' k.2⟩)
/-- both become sums -/
theorem f_combine {f0 f1 f2 f3 : Int} (hO : mOk M) (hF : NF L W M) (ha : a ∈ L) (hb : b ∈ L) (ab : a ≠ b) (hs : sz M b ≤ sz M a) (wb : sz M a ≤ W b) (kc : mK M c = 33) (nc : mN M c = 4) (zc : c < mZ M) (e0 : mL M c 0 = f0) (e1 : mL M c 1 = f1) (e2 : mL M c 2 = f2) (e3 : mL M c 3 = f3) (b0 : fac f0) (b1 : fac f1) (b2 : fac f2) (b3 : fac f3) (g0 : 0 ≤ f0 * nv M a + f1 * nv M b ∧ f0 * nv M a + f1 * nv M b < 2 ^ (30 * sz M a)) (g1 : 0 ≤ f2 * nv M a + f3 * nv M b ∧ f2 * nv M a + f3 * nv M b < 2 ^ (30 * sz M a)) : Cv G y_Na_combine (d + 3) [vr a, vr b, vr c] M (fun M' => NC L W (fun x => x = a ∨ x = b) M M' ∧ nv M' a = f0 * nv M a + f1 * nv M b ∧ nv M' b = f2 * nv M a + f3 * nv M b) := by
  have hTL : ∀ t, (t = a ∨ t = b) → t ∈ L := fun t u => u.elim (fun u => by rw [u]; exact ha) (fun u => by rw [u]; exact hb)
  refine k_Na_combine hO ?_
  rw [(hF.nt ha).2.1]
  refine ⟨hF.kd ha, hF.kd hb, (f_reserve hO hF hb wb).mono (fun M3 k3 => ?_)⟩
  obtain ⟨c1, v1, z1, w1⟩ := k3
  have F1 := c1.nf
  obtain ⟨a1, -, a3, a4, a5, a6⟩ := c1.num hF ha ab
  have tb := F1.nt hb
  have ta := F1.nt ha
  have bb := F1.cb hb
  have cc : mN M3 (mR M3 b 0) = cp M3 b := rfl
  rw [tb.2.1]
  refine ⟨c1.ok, F1.kd hb, (s_JA_fillR (p := sz M3 b) (q := sz M a) c1.ok (F1.ka hb) (by omega) (by omega) (by omega) ⟨by decide, by decide⟩).mono (fun M7 k7 => ?_)⟩
  obtain ⟨o7, F7, i7⟩ := k7
  have ne := F1.ne ha hb ab
  have nab := F1.na ha hb
  have nbb := F1.na hb hb
  have LX : lim M7 (mR M3 b 0) (sz M a) := fun j hj => by
    rw [i7 j]
    by_cases u : sz M3 b ≤ j ∧ j < sz M a
    · rw [if_pos u]; exact ⟨by decide, by decide⟩
    · rw [if_neg u]; exact tb.2.2.2.1 j (by omega)
  have LY : lim M7 (mR M3 a 0) (sz M a) := fun j hj => by
    rw [F7.2.2.2.2.2.2 _ ne]
    exact ta.2.2.2.1 j (by omega)
  have DX : dn (mI M7 (mR M3 b 0)) (sz M a) = nv M b := by
    rw [dn_z (s := sz M3 b) (by omega) (fun j u1 u2 => by rw [i7 j, if_pos ⟨u1, u2⟩]), ← v1]
    exact dn_cg _ (fun j hj => by rw [i7 j, if_neg (by omega)])
  have DY : dn (mI M7 (mR M3 a 0)) (sz M a) = nv M a := by
    rw [F7.2.2.2.2.2.2 _ ne, ← a5]
    unfold nv
    rw [a4]
  have fc := c1.2.2.1.2 c zc
  have aC := F1.sc ha
  refine ⟨o7, hm_cb (s_cb32 (n := sz M a) (A := nv M a) (B := nv M b) (ta.1.fi F7) (tb.1.fi F7) (by omega) w1 ab ne (by rw [F7.1, fc.1]; exact kc) (by rw [F7.2.1, fc.2.1]; exact nc) (by rw [F7.2.2.2.1, fc.2.2.1]; exact e0) (by rw [F7.2.2.2.1, fc.2.2.1]; exact e1) (by rw [F7.2.2.2.1, fc.2.2.1]; exact e2) (by rw [F7.2.2.2.1, fc.2.2.1]; exact e3) b0 b1 b2 b3 LY LX DY.symm DX.symm g0 g1 (sz M a) 0 0 0 M7 (by omega) (by omega) ⟨by decide, by decide⟩ ⟨by decide, by decide⟩ o7 FI.refl LY LX (fun _ _ => rfl) (fun _ _ => rfl) (by show _ + 0 * _ = _ - 0 + _ * 0 + _ * (0 : Int); rw [Int.zero_mul, Int.mul_zero, Int.mul_zero, Int.sub_zero, Int.add_zero, Int.add_zero]) (by show _ + 0 * _ = _ - 0 + _ * 0 + _ * (0 : Int); rw [Int.zero_mul, Int.mul_zero, Int.mul_zero, Int.sub_zero, Int.add_zero, Int.add_zero])) (fun M' k' => ?_)⟩
  obtain ⟨o, F, s, t, Ta, Tb, r1, r2⟩ := k'
  rw [← Ta.nv] at r1
  rw [← Tb.nv] at r2
  have FF : FI (nsS M3 (fun x => x = a ∨ x = b)) M3 M' := by
    refine (F7.mono (fun y u => Or.inr ⟨b, Or.inr rfl, u⟩)).trans (F.mono (fun y u => ?_))
    rcases u with (u | u) | (u | u)
    · exact Or.inl (Or.inl u)
    · exact Or.inr ⟨a, Or.inl rfl, u⟩
    · exact Or.inl (Or.inr u)
    · exact Or.inr ⟨b, Or.inr rfl, u⟩
  have C2 := F1.chg hTL FF o (fun t ht => by
    rcases ht with u | u
    · rw [u]; exact ⟨_, Ta⟩
    · rw [u]; exact ⟨_, Tb⟩)
  exact ⟨(c1.mono (fun _ u => Or.inr u) hTL hF).trans C2, r1, r2⟩
end NAP
end
section
/-! Lehmer's steps, and the class's search for them. -/
section LEH
variable {K x y a b c d u v q : Int}
/-- common divisors are the same -/
def DE (u v u' v' : Int) : Prop := ∀ g : Int, (g ∣ u ∧ g ∣ v) ↔ (g ∣ u' ∧ g ∣ v')
theorem DE.refl : DE u v u v := fun _ => Iff.rfl
theorem DE.trans {u1 v1 u2 v2 : Int} (h : DE u v u1 v1) (k : DE u1 v1 u2 v2) : DE u v u2 v2 := fun g => (h g).trans (k g)
theorem DE.swap : DE u v v u := fun _ => And.comm
theorem DE.step (q : Int) : DE u v v (u - q * v) := fun g => by
  constructor
  · rintro ⟨h1, h2⟩
    exact ⟨h2, Int.dvd_sub h1 (Int.dvd_trans h2 (Int.dvd_mul_left q v))⟩
  · rintro ⟨h1, h2⟩
    refine ⟨?_, h1⟩
    have := Int.dvd_add h2 (Int.dvd_trans h1 (Int.dvd_mul_left q v))
    rw [show u - q * v + q * v = u by omega] at this
    exact this
/-- what the highest bits tell -/
def LB (K x y a b c d u v : Int) : Prop := (K * (x + b) ≤ u ∧ u ≤ K * (x + a) ∧ K * (y + c) ≤ v ∧ v ≤ K * (y + d)) ∨ (K * (x + a) ≤ u ∧ u ≤ K * (x + b) ∧ K * (y + d) ≤ v ∧ v ≤ K * (y + c))
theorem lb_q {x1 y1 x2 y2 : Int} (hK : 0 < K) (h1 : K * x1 ≤ u) (h2 : u ≤ K * x2) (h3 : K * y1 ≤ v) (h4 : v ≤ K * y2) (hy1 : 0 < y1) (hq0 : 0 ≤ q) (hq1 : q * y2 ≤ x1) (hq2 : x2 < (q + 1) * y1) : 0 ≤ u - q * v ∧ u - q * v < v := by
  have a1 : q * v ≤ q * (K * y2) := Int.mul_le_mul_of_nonneg_left h4 hq0
  have a2 : K * (q * y2) ≤ K * x1 := Int.mul_le_mul_of_nonneg_left hq1 (Int.le_of_lt hK)
  have a3 : K * x2 < K * ((q + 1) * y1) := Int.mul_lt_mul_of_pos_left hq2 hK
  have a4 : (q + 1) * (K * y1) ≤ (q + 1) * v := Int.mul_le_mul_of_nonneg_left h3 (by omega)
  rw [Int.mul_left_comm] at a1 a4
  rw [Int.add_mul (a := q) (b := 1) (c := v), Int.one_mul] at a4
  omega
theorem lb_new {x1 y1 : Int} (h1 : K * x1 ≤ u) (h4 : v ≤ K * y1) (hq0 : 0 ≤ q) : K * (x1 - q * y1) ≤ u - q * v := by
  have a1 : q * v ≤ q * (K * y1) := Int.mul_le_mul_of_nonneg_left h4 hq0
  rw [Int.mul_sub, Int.mul_left_comm]
  omega
theorem lb_new2 {x1 y1 : Int} (h1 : u ≤ K * x1) (h4 : K * y1 ≤ v) (hq0 : 0 ≤ q) : u - q * v ≤ K * (x1 - q * y1) := by
  have a1 : q * (K * y1) ≤ q * v := Int.mul_le_mul_of_nonneg_left h4 hq0
  rw [Int.mul_sub, Int.mul_left_comm]
  omega
/-- one step -/
theorem lb_step (hK : 0 < K) (h : LB K x y a b c d u v) (p1 : 0 ≤ x + a) (p2 : 0 ≤ x + b) (p3 : 0 < y + c) (p4 : 0 < y + d) (e1 : q = (x + a) / (y + c)) (e2 : q = (x + b) / (y + d)) : 0 ≤ q ∧ (0 ≤ u - q * v ∧ u - q * v < v) ∧ LB K y (x - q * y) c d (a - q * c) (b - q * d) v (u - q * v) ∧ 0 ≤ (x - q * y) + (a - q * c) ∧ 0 ≤ (x - q * y) + (b - q * d) := by
  have q0 : 0 ≤ q := by rw [e1]; exact Int.ediv_nonneg p1 (Int.le_of_lt p3)
  have r1 : q * (y + c) ≤ x + a := by rw [e1]; exact Int.ediv_mul_le _ (by omega)
  have r2 : x + a < (q + 1) * (y + c) := by rw [e1]; exact Int.lt_ediv_add_one_mul_self _ p3
  have r3 : q * (y + d) ≤ x + b := by rw [e2]; exact Int.ediv_mul_le _ (by omega)
  have r4 : x + b < (q + 1) * (y + d) := by rw [e2]; exact Int.lt_ediv_add_one_mul_self _ p4
  have s1 : (x - q * y) + (a - q * c) = (x + a) - q * (y + c) := by rw [Int.mul_add]; omega
  have s2 : (x - q * y) + (b - q * d) = (x + b) - q * (y + d) := by rw [Int.mul_add]; omega
  clear e1 e2
  rcases h with ⟨h1, h2, h3, h4⟩ | ⟨h1, h2, h3, h4⟩
  · refine ⟨q0, lb_q hK h1 h2 h3 h4 p3 q0 r3 r2, Or.inr ⟨h3, h4, ?_, ?_⟩, by omega, by omega⟩
    · rw [s2]; exact lb_new h1 h4 q0
    · rw [s1]; exact lb_new2 h2 h3 q0
  · refine ⟨q0, lb_q hK h1 h2 h3 h4 p4 q0 r1 r4, Or.inl ⟨h3, h4, ?_, ?_⟩, by omega, by omega⟩
    · rw [s1]; exact lb_new h1 h4 q0
    · rw [s2]; exact lb_new2 h2 h3 q0
/-- the product halves -/
theorem eu_half {r : Int} (hv : 0 ≤ v) (hvu : v ≤ u) (hr : 0 ≤ r ∧ r < v) (hq : 1 ≤ q) (e : r = u - q * v) : 2 * (v * r) ≤ u * v := by
  have a1 : v ≤ q * v := by
    have := Int.mul_le_mul_of_nonneg_right hq hv
    omega
  have a2 : 2 * r ≤ u := by omega
  have a3 : v * (2 * r) ≤ v * u := Int.mul_le_mul_of_nonneg_left a2 hv
  rw [Int.mul_left_comm, Int.mul_comm v u] at a3
  exact a3
theorem lb_hi {B : Int} (hK : 0 < K) (h : LB K x y a b c d u v) (hu : u < K * B) (hv : v < K * B) (ba : -1073741824 < a ∧ a < 1073741824) (bb : -1073741824 < b ∧ b < 1073741824) (bc : -1073741824 < c ∧ c < 1073741824) (bd : -1073741824 < d ∧ d < 1073741824) : x < B + 1073741824 ∧ y < B + 1073741824 := by
  rcases h with ⟨h1, h2, h3, h4⟩ | ⟨h1, h2, h3, h4⟩
  · have a1 : x + b < B := Int.lt_of_mul_lt_mul_left (Int.lt_of_le_of_lt h1 hu) (Int.le_of_lt hK)
    have a2 : y + c < B := Int.lt_of_mul_lt_mul_left (Int.lt_of_le_of_lt h3 hv) (Int.le_of_lt hK)
    omega
  · have a1 : x + a < B := Int.lt_of_mul_lt_mul_left (Int.lt_of_le_of_lt h1 hu) (Int.le_of_lt hK)
    have a2 : y + d < B := Int.lt_of_mul_lt_mul_left (Int.lt_of_le_of_lt h3 hv) (Int.le_of_lt hK)
    omega
end LEH
section NAQ
variable {G : mG} {e z n m w : Nat} {M M' M1 M2 M3 : mM} {K B u0 v0 x y a b c d q : Int}
/-- only the longs of one cell differ -/
def FLo (c : Nat) (M M' : mM) : Prop := mK M' = mK M ∧ mN M' = mN M ∧ mR M' = mR M ∧ mI M' = mI M ∧ mZ M' = mZ M ∧ mS M' = mS M ∧ ∀ x, x ≠ c → mL M' x = mL M x
theorem FLo.refl {c : Nat} : FLo c M M := ⟨rfl, rfl, rfl, rfl, rfl, rfl, fun _ _ => rfl⟩
theorem FLo.ul {c j : Nat} {v : Int} (e : M' = mUL M c j v) : FLo c M M' := by
  subst e
  refine ⟨rfl, rfl, rfl, rfl, rfl, rfl, fun x hx => ?_⟩
  funext k
  rw [mL_UL, if_neg (fun u => hx u.1)]
theorem FLo.trans {c : Nat} (h : FLo c M M1) (k : FLo c M1 M2) : FLo c M M2 := by
  obtain ⟨h1, h2, h3, h4, h5, h6, h7⟩ := h
  obtain ⟨k1, k2, k3, k4, k5, k6, k7⟩ := k
  exact ⟨k1.trans h1, k2.trans h2, k3.trans h3, k4.trans h4, k5.trans h5, k6.trans h6, fun x hx => (k7 x hx).trans (h7 x hx)⟩
theorem mL_ul {c j : Nat} {v : Int} (b i : Nat) (e : M' = mUL M c j v) : mL M' b i = if b = c ∧ i = j then v else mL M b i := by rw [e, mL_UL]
/-- on the way -/
def FS (K u0 v0 x y a b c d : Int) : Prop := (fac a ∧ fac b ∧ fac c ∧ fac d) ∧ LB K x y a b c d (a * u0 + b * v0) (c * u0 + d * v0) ∧ (0 ≤ x + a ∧ 0 ≤ x + b ∧ 0 ≤ y + c ∧ 0 ≤ y + d) ∧ (0 ≤ c * u0 + d * v0 ∧ c * u0 + d * v0 ≤ a * u0 + b * v0 ∧ a * u0 + b * v0 ≤ u0) ∧ DE u0 v0 (a * u0 + b * v0) (c * u0 + d * v0) ∧ ((a * u0 + b * v0) * (c * u0 + d * v0) ≤ u0 * v0 ∧ (b = 0 ∨ 2 * ((a * u0 + b * v0) * (c * u0 + d * v0)) ≤ u0 * v0))
theorem fs_al {u0 v0 a b c d q : Int} : (a - q * c) * u0 + (b - q * d) * v0 = (a * u0 + b * v0) - q * (c * u0 + d * v0) := by grind
theorem FS.step (hK : 0 < K) (h : FS K u0 v0 x y a b c d) (v0p : 0 ≤ v0) (p3 : 0 < y + c) (p4 : 0 < y + d) (e1 : q = (x + a) / (y + c)) (e2 : q = (x + b) / (y + d)) (f1 : fac (a - q * c)) (f2 : fac (b - q * d)) : FS K u0 v0 y (x - q * y) c d (a - q * c) (b - q * d) := by
  obtain ⟨⟨ba, bb, bc, bd⟩, lb, ⟨p1, p2, -, -⟩, ⟨o1, o2, o3⟩, de, pr⟩ := h
  obtain ⟨q0, ⟨r1, r2⟩, lb', s1, s2⟩ := lb_step hK lb p1 p2 p3 p4 e1 e2
  unfold FS
  rw [fs_al]
  generalize a * u0 + b * v0 = u at *
  generalize c * u0 + d * v0 = v at *
  have q1 : 1 ≤ q := by
    refine Classical.byContradiction (fun w => ?_)
    have : q = 0 := by omega
    rw [this, Int.zero_mul] at r2
    omega
  have hf := eu_half (q := q) o1 o2 ⟨r1, r2⟩ q1 rfl
  have vr0 := Int.mul_nonneg o1 r1
  exact ⟨⟨bc, bd, f1, f2⟩, lb', ⟨by omega, by omega, s1, s2⟩, ⟨r1, by omega, by omega⟩, de.trans (DE.step q), by omega, Or.inr (by omega)⟩
theorem FS.init {x0 y0 : Int} (h1 : K * x0 ≤ u0) (h2 : u0 < K * (x0 + 1)) (h3 : K * y0 ≤ v0) (h4 : v0 < K * (y0 + 1)) (hx : 0 ≤ x0) (hy : 0 ≤ y0) (h0 : 0 ≤ v0) (h : v0 ≤ u0) : FS K u0 v0 x0 y0 1 0 0 1 := by
  unfold FS
  rw [show (1 : Int) * u0 + 0 * v0 = u0 by omega, show (0 : Int) * u0 + 1 * v0 = v0 by omega]
  exact ⟨⟨⟨by decide, by decide⟩, ⟨by decide, by decide⟩, ⟨by decide, by decide⟩, ⟨by decide, by decide⟩⟩, Or.inl ⟨by rw [Int.add_zero]; exact h1, Int.le_of_lt h2, by rw [Int.add_zero]; exact h3, Int.le_of_lt h4⟩, ⟨by omega, by omega, by omega, by omega⟩, ⟨h0, h, Int.le_refl _⟩, DE.refl, Int.le_refl _, Or.inl rfl⟩
/-- what the search leaves behind -/
def ffQ (M : mM) (f : Nat) (u0 v0 : Int) (x : Int) (M' : mM) : Prop := mOk M' ∧ FLo f M M' ∧ ∃ a b c d, (mL M' f 0 = a ∧ mL M' f 1 = b ∧ mL M' f 2 = c ∧ mL M' f 3 = d) ∧ (fac a ∧ fac b ∧ fac c ∧ fac d) ∧ (0 ≤ c * u0 + d * v0 ∧ c * u0 + d * v0 ≤ a * u0 + b * v0 ∧ a * u0 + b * v0 ≤ u0) ∧ DE u0 v0 (a * u0 + b * v0) (c * u0 + d * v0) ∧ (x = 0 ∨ 2 * ((a * u0 + b * v0) * (c * u0 + d * v0)) ≤ u0 * v0) ∧ (x = 0 ∨ x = 1)
theorem fac64 {x : Int} (h : fac x) : i64 x := by unfold fac at h; exact ⟨by omega, by omega⟩
theorem ff_end {f : Nat} (hO : mOk M) (hk : mK M z = 9) (hf : mR M z 6 = f) (kf : mK M f = 33) (nf : mN M f = 4) (h : FS K u0 v0 x y a b c d) : mK M z = 9 ∧ mK M (mR M z 6) = 33 ∧ ((0 : Int) ≤ 0 ∧ 0 < (mN M (mR M z 6) : Int)) ∧ ∀ M17, M17 = mUL M (mR M z 6) 0 a → mK M17 (mR M17 z 6) = 33 ∧ ((0 : Int) ≤ 1 ∧ 1 < (mN M17 (mR M17 z 6) : Int)) ∧ ∀ M21, M21 = mUL M17 (mR M17 z 6) 1 b → mK M21 (mR M21 z 6) = 33 ∧ ((0 : Int) ≤ 2 ∧ 2 < (mN M21 (mR M21 z 6) : Int)) ∧ ∀ M25, M25 = mUL M21 (mR M21 z 6) 2 c → mK M25 (mR M25 z 6) = 33 ∧ ((0 : Int) ≤ 3 ∧ 3 < (mN M25 (mR M25 z 6) : Int)) ∧ ∀ M29, M29 = mUL M25 (mR M25 z 6) 3 d → ∀ v32 : Int, v32 = (if (cmpL b 0 = 0) then 0 else 1) → ffQ M f u0 v0 v32 M29 := by
  obtain ⟨⟨ba, bb, bc, bd⟩, lb, -, or, de, -, pr⟩ := h
  rw [hf, nf]
  refine ⟨hk, kf, ⟨by decide, by decide⟩, fun M17 e17 => ?_⟩
  have f17 := FLo.ul e17
  rw [f17.1, f17.2.1, f17.2.2.1, hf, nf]
  refine ⟨kf, ⟨by decide, by decide⟩, fun M21 e21 => ?_⟩
  have f21 := f17.trans (FLo.ul e21)
  rw [f21.1, f21.2.1, f21.2.2.1, hf, nf]
  refine ⟨kf, ⟨by decide, by decide⟩, fun M25 e25 => ?_⟩
  have f25 := f21.trans (FLo.ul e25)
  rw [f25.1, f25.2.1, f25.2.2.1, hf, nf]
  refine ⟨kf, ⟨by decide, by decide⟩, fun M29 e29 v32 e32 => ?_⟩
  have o29 : mOk M29 := by rw [e29]; exact mOk_UL (by rw [e25]; exact mOk_UL (by rw [e21]; exact mOk_UL (by rw [e17]; exact mOk_UL hO (fac64 ba)) (fac64 bb)) (fac64 bc)) (fac64 bd)
  refine ⟨o29, f25.trans (FLo.ul e29), a, b, c, d, ⟨?_, ?_, ?_, ?_⟩, ⟨ba, bb, bc, bd⟩, or, de, ?_, by rw [e32]; split <;> omega⟩
  · rw [mL_ul f 0 e29, if_neg (fun u => absurd u.2 (by decide)), mL_ul f 0 e25, if_neg (fun u => absurd u.2 (by decide)), mL_ul f 0 e21, if_neg (fun u => absurd u.2 (by decide)), mL_ul f 0 e17, if_pos ⟨rfl, rfl⟩]
  · rw [mL_ul f 1 e29, if_neg (fun u => absurd u.2 (by decide)), mL_ul f 1 e25, if_neg (fun u => absurd u.2 (by decide)), mL_ul f 1 e21, if_pos ⟨rfl, rfl⟩]
  · rw [mL_ul f 2 e29, if_neg (fun u => absurd u.2 (by decide)), mL_ul f 2 e25, if_pos ⟨rfl, rfl⟩]
  · rw [mL_ul f 3 e29, if_pos ⟨rfl, rfl⟩]
  · rcases pr with pr | pr
    · rw [pr, if_pos (j_c0.2 rfl)] at e32
      exact Or.inl e32
    · exact Or.inr pr
theorem ab_i {x : Int} : (if 0 < x then x else -x) ≤ 1073741823 ↔ (-1073741824 < x ∧ x < 1073741824) := by
  split <;> constructor <;> intro h <;> omega
theorem ab_b {x : Int} (h : -1152921505680588800 ≤ x ∧ x ≤ 1152921505680588800) : i64 x ∧ i64 (if 0 < x then x else -x) := by
  unfold i64
  split <;> omega
theorem qc_b {q a c : Int} (hq : 0 ≤ q ∧ q ≤ 1073741823) (ha : fac a) (hc : fac c) : -1152921505680588800 ≤ a - q * c ∧ a - q * c ≤ 1152921505680588800 := by
  unfold fac at ha hc
  have h1 : q * c ≤ q * 1073741823 := Int.mul_le_mul_of_nonneg_left (by omega) hq.1
  have h2 : q * (-1073741823) ≤ q * c := Int.mul_le_mul_of_nonneg_left (by omega) hq.1
  omega
theorem td_b {x y : Int} (hx : 0 ≤ x) (hy : 0 < y) (h : i64 x) : Int.tdiv x y = x / y ∧ i64 (x / y) := by
  refine ⟨Int.tdiv_eq_ediv_of_nonneg hx, ?_⟩
  have h1 := Int.ediv_nonneg hx (Int.le_of_lt hy)
  have h2 := Int.ediv_le_self y hx
  unfold i64 at h ⊢
  omega
theorem j_ceq {x z : Int} : cmpL x z = 0 ↔ x = z := by
  unfold cmpL; split
  · constructor <;> intro h <;> omega
  · split <;> constructor <;> intro h <;> first | omega | contradiction
theorem j_cgt {x z : Int} : 0 < cmpL x z ↔ z < x := by
  unfold cmpL; split
  · constructor <;> intro h <;> omega
  · split <;> constructor <;> intro h <;> omega
theorem s_ff21 {f e : Nat} (hK : 0 < K) (hO : mOk M) (hk : mK M z = 9) (hf : mR M z 6 = f) (kf : mK M f = 33) (nf : mN M f = 4) (hu : u0 < K * 1152921504606846976) (v0p : 0 ≤ v0) : ∀ (t i : Nat) (x y a b c d : Int), 100 ≤ i + t → i ≤ 100 → FS K u0 v0 x y a b c d → h_Sc_findFactors_21 G e z x y a b c d i M (ffQ M f u0 v0) := by
  intro t
  induction t with
  | zero =>
    intro i x y a b c d h1 h2 S
    obtain ⟨⟨ba, bb, bc, bd⟩, lb, ⟨p1, p2, p3, p4⟩, ⟨o1, o2, o3⟩, -⟩ := id S
    obtain ⟨x1, y1⟩ := lb_hi (B := 1152921504606846976) hK lb (by omega) (by omega) ba bb bc bd
    have ba' := id ba
    have bc' := id bc
    unfold fac at ba' bc'
    exact k_Sc_findFactors_21 hO ⟨by omega, by omega⟩ ⟨by omega, by omega⟩ (fac64 ba) (fac64 bb) (fac64 bc) (fac64 bd) ⟨by omega, by omega⟩ ⟨fun u => absurd (by omega) u, fun _ => ff_end hO hk hf kf nf S, fun u => absurd (Or.inl (by omega)) u⟩
  | succ t ih =>
    intro i x y a b c d h1 h2 S
    by_cases ei : i = 100
    · exact ih i x y a b c d (by omega) h2 S
    obtain ⟨⟨ba, bb, bc, bd⟩, lb, ⟨p1, p2, p3, p4⟩, ⟨o1, o2, o3⟩, -⟩ := id S
    obtain ⟨x1, y1⟩ := lb_hi (B := 1152921504606846976) hK lb (by omega) (by omega) ba bb bc bd
    have ba' := id ba
    have bb' := id bb
    have bc' := id bc
    have bd' := id bd
    unfold fac at ba' bb' bc' bd'
    refine k_Sc_findFactors_21 hO ⟨by omega, by omega⟩ ⟨by omega, by omega⟩ (fac64 ba) (fac64 bb) (fac64 bc) (fac64 bd) ⟨by omega, by omega⟩ ⟨fun _ => ⟨⟨by omega, by omega⟩, fun _ => ⟨by omega, by omega⟩⟩, fun _ => ff_end hO hk hf kf nf S, fun u => ?_⟩
    have c0 : y + c ≠ 0 := fun w => u (Or.inr (Or.inl (j_c0.2 w)))
    have d0 : y + d ≠ 0 := fun w => u (Or.inr (Or.inr (j_c0.2 w)))
    obtain ⟨t1, t2⟩ := td_b (x := x + a) (y := y + c) p1 (by omega) ⟨by omega, by omega⟩
    obtain ⟨t3, t4⟩ := td_b (x := x + b) (y := y + d) p2 (by omega) ⟨by omega, by omega⟩
    rw [t1, t3]
    generalize eq : (x + a) / (y + c) = q at *
    refine ⟨⟨by omega, by omega⟩, ⟨by omega, by omega⟩, c0, ⟨by omega, by omega⟩, ⟨by omega, by omega⟩, d0, t2, t4, fun w1 => ⟨fun w2 => ?_, fun _ => ff_end hO hk hf kf nf S⟩, fun _ => ff_end hO hk hf kf nf S⟩
    have w1' := j_ceq.1 w1
    have w2' := j_cle.1 w2
    have q0 : 0 ≤ q := by rw [← eq]; exact Int.ediv_nonneg p1 (by omega)
    obtain ⟨m1, m2⟩ := ab_b (qc_b ⟨q0, w2'⟩ ba bc)
    obtain ⟨m3, m4⟩ := ab_b (qc_b ⟨q0, w2'⟩ bb bd)
    refine ⟨m1, m2, fun _ => ff_end hO hk hf kf nf S, fun w3 => ⟨m3, m4, fun w4 => ?_, fun _ => ff_end hO hk hf kf nf S⟩⟩
    have f1 : fac (a - q * c) := ab_i.1 (Int.not_lt.1 (fun u => w3 (j_cgt.2 u)))
    have f2 : fac (b - q * d) := ab_i.1 (j_cle.1 w4)
    rw [show ((i : Int) + 1) = ((i + 1 : Nat) : Int) by omega]
    exact ih (i + 1) _ _ _ _ _ _ (by omega) (by omega) (S.step hK v0p (by omega) (by omega) eq.symm w1' f1 f2)
theorem s_Sc_findFactors {f e : Nat} (hK : 0 < K) (hO : mOk M) (hk : mK M z = 9) (hf : mR M z 6 = f) (kf : mK M f = 33) (nf : mN M f = 4) (hu : u0 < K * 1152921504606846976) (h0 : 0 ≤ v0) (h : v0 ≤ u0) : Ci G y_Sc_findFactors (e + 1) [vr z, vl (u0 / K), vl (v0 / K)] M (ffQ M f u0 v0) := by
  have a1 := Int.mul_ediv_self_le (x := u0) (k := K) (by omega)
  have a2 := Int.lt_mul_ediv_self_add (x := u0) (k := K) hK
  have a3 := Int.mul_ediv_self_le (x := v0) (k := K) (by omega)
  have a4 := Int.lt_mul_ediv_self_add (x := v0) (k := K) hK
  have b1 := Int.ediv_nonneg (show 0 ≤ u0 by omega) (Int.le_of_lt hK)
  have b2 := Int.ediv_nonneg h0 (Int.le_of_lt hK)
  have b3 : u0 / K < 1152921504606846976 := Int.ediv_lt_of_lt_mul hK (by rw [Int.mul_comm]; exact hu)
  have b4 : v0 / K < 1152921504606846976 := Int.ediv_lt_of_lt_mul hK (by rw [Int.mul_comm]; omega)
  refine k_Sc_findFactors hO ⟨by omega, by omega⟩ ⟨by omega, by omega⟩ ?_
  exact s_ff21 hK hO hk hf kf nf hu h0 100 0 _ _ 1 0 0 1 (by omega) (by omega) (FS.init a1 (by rw [Int.mul_add, Int.mul_one]; exact a2) a3 (by rw [Int.mul_add, Int.mul_one]; exact a4) b1 b2 h0 h)
end NAQ
end
section
/-! Euclid with longs (Fibonacci's bound); the Scales' places and frames. -/
section NAR
variable {G : mG} {d a b c z n m w : Nat} {M M' M1 M2 M3 : mM} {L : List Nat} {W : Nat → Nat} {T T' I I' : Nat → Prop} {r r' : Prop}
/-- Fibonacci's numbers, in pairs -/
def fbp : Nat → Nat × Nat
  | 0 => (0, 1)
  | n + 1 => ((fbp n).2, (fbp n).1 + (fbp n).2)
def fb (n : Nat) : Nat := (fbp n).1
theorem fb_s (n : Nat) : fb (n + 2) = fb n + fb (n + 1) := rfl
theorem fb_st {m a b : Nat} (hb : 0 < b) (h : b < fb (m + 2) ∨ (a < fb (m + 3) ∧ b < a)) : (a % b < fb (m + 1) ∨ (b < fb (m + 2) ∧ a % b < b)) := by
  have h1 := Nat.mod_lt a hb
  by_cases u : b < fb (m + 2)
  · exact Or.inr ⟨u, h1⟩
  · rcases h with h | ⟨h2, h3⟩
    · exact absurd h u
    · refine Or.inl ?_
      have h4 : a % b ≤ a - b := by
        rw [Nat.mod_eq_sub_mod (by omega)]
        exact Nat.mod_le _ _
      have h5 : fb (m + 3) = fb (m + 1) + fb (m + 2) := fb_s (m + 1)
      omega
theorem s_Ma_gcdL {x y : Nat} (hx : x < 1152921504606846976) (hy : y < 1152921504606846976) (xy : 1 ≤ x) (hO : mOk M) : Cj G y_Ma_commonDivisor d [vl x, vl y] M (fun r M' => M' = M ∧ ∃ w : Nat, r = ((w : Nat) : Int) ∧ (1 ≤ w ∧ w < 1152921504606846976) ∧ w ∣ x ∧ w ∣ y ∧ ∀ g : Nat, g ∣ x → g ∣ y → g ∣ w) := by
  refine k_Ma_commonDivisor hO ⟨by omega, by omega⟩ ⟨by omega, by omega⟩ (fun v2 e2 => ?_)
  have v0 : v2 = x := by
    have := (cmpz x 0).1
    rw [e2, if_pos (by rw [this]; omega)]
  subst v0
  suffices HH : ∀ (s i a b : Nat), 100 = i + s → a < 1152921504606846976 → b < 1152921504606846976 → (∀ w, w ∣ a → w ∣ b → w ∣ x ∧ w ∣ y) → (∀ g : Nat, g ∣ x → g ∣ y → g ∣ a ∧ g ∣ b) → (1 ≤ a ∨ 1 ≤ b) → (b < fb (s + 1) ∨ (a < fb (s + 2) ∧ b < a)) → h_Ma_commonDivisor_20 G d a b i M (fun r M' => M' = M ∧ ∃ w : Nat, r = ((w : Nat) : Int) ∧ (1 ≤ w ∧ w < 1152921504606846976) ∧ w ∣ x ∧ w ∣ y ∧ ∀ g : Nat, g ∣ x → g ∣ y → g ∣ w) from HH 100 0 x y (by omega) hx hy (fun w h1 h2 => ⟨h1, h2⟩) (fun g h1 h2 => ⟨h1, h2⟩) (Or.inl xy) (Or.inl (Nat.lt_trans hy (by decide)))
  intro s
  induction s with
  | zero =>
    intro i a b hs ha hb hd hd2 h1 hk
    have b0 : b = 0 := by
      have f1 : fb 1 = 1 := rfl
      have f2 : fb 2 = 1 := rfl
      have hk' : b < fb 1 ∨ (a < fb 2 ∧ b < a) := hk
      omega
    have ca := (cmpz (a : Int) 0).2.2.2.1
    refine k_Ma_commonDivisor_20 hO ⟨by omega, by omega⟩ ⟨by omega, by omega⟩ (i32s (by omega) (by omega)) ⟨fun _ v12 e12 => ?_, fun q => absurd (Or.inl (by omega)) q⟩
    clear hk
    rw [if_neg (by rw [ca]; omega)] at e12
    rw [e12]
    have := hd a (Nat.dvd_refl _) (by rw [b0]; exact Nat.dvd_zero _)
    exact ⟨rfl, a, rfl, ⟨by omega, ha⟩, this.1, this.2, fun g g1 g2 => (hd2 g g1 g2).1⟩
  | succ s ih =>
    intro i a b hs ha hb hd hd2 h1 hk
    have ca := (cmpz (a : Int) 0).2.2.2.1
    have cb := (cmpz (b : Int) 0).2.2.2.1
    refine k_Ma_commonDivisor_20 hO ⟨by omega, by omega⟩ ⟨by omega, by omega⟩ (i32s (by omega) (by omega)) ⟨fun q v12 e12 => ?_, fun q => ?_⟩
    · have b0 : b = 0 := by
        rcases q with q | q
        · omega
        · rw [cb] at q
          omega
      clear hk
      rw [if_neg (by rw [ca]; omega)] at e12
      rw [e12]
      have := hd a (Nat.dvd_refl _) (by rw [b0]; exact Nat.dvd_zero _)
      exact ⟨rfl, a, rfl, ⟨by omega, ha⟩, this.1, this.2, fun g g1 g2 => (hd2 g g1 g2).1⟩
    · have b0 : 0 < b := by
        by_cases t : b = 0
        · exact absurd (Or.inr (by rw [cb]; omega)) q
        · omega
      have em : Int.tmod (a : Int) (b : Int) = ((a % b : Nat) : Int) := by rw [Int.tmod_eq_emod_of_nonneg (by omega)]; rfl
      have ml := Nat.mod_lt a b0
      rw [em, show ((i : Int) + 1) = ((i + 1 : Nat) : Int) by omega]
      refine ⟨by omega, ih (i + 1) b (a % b) (by omega) hb (by omega) (fun w w1 w2 => ?_) (fun g g1 g2 => ⟨(hd2 g g1 g2).2, (Nat.dvd_mod_iff (hd2 g g1 g2).2).2 (hd2 g g1 g2).1⟩) (Or.inl b0) (fb_st b0 hk)⟩
      have wa : w ∣ a := by
        have := Nat.div_add_mod a b
        rw [← this]
        exact Nat.dvd_add (Nat.dvd_trans w1 (Nat.dvd_mul_right _ _)) w2
      exact hd w wa w1
/-- a frame with longs -/
def FD (S R D : Nat → Prop) (M M' : mM) : Prop := (mZ M ≤ mZ M' ∧ mS M ≤ mS M') ∧ ∀ x, x < mZ M → mK M' x = mK M x ∧ mN M' x = mN M x ∧ (¬ D x → mL M' x = mL M x) ∧ (¬ R x → mR M' x = mR M x) ∧ (¬ S x → mI M' x = mI M x)
theorem FD.refl {S R D : Nat → Prop} : FD S R D M M := ⟨⟨Nat.le_refl _, Nat.le_refl _⟩, fun _ _ => ⟨rfl, rfl, fun _ => rfl, fun _ => rfl, fun _ => rfl⟩⟩
theorem FD.trans2 {S R D S' R' D' : Nat → Prop} (h : FD S R D M M1) (k : FD S' R' D' M1 M2) (hS : ∀ x, x < mZ M → S' x → S x) (hR : ∀ x, x < mZ M → R' x → R x) (hD : ∀ x, x < mZ M → D' x → D x) : FD S R D M M2 := by
  obtain ⟨⟨h1, h2⟩, h3⟩ := h
  obtain ⟨⟨k1, k2⟩, k3⟩ := k
  refine ⟨⟨by omega, by omega⟩, fun x hx => ?_⟩
  obtain ⟨a1, a2, a3, a4, a5⟩ := h3 x hx
  obtain ⟨b1, b2, b3, b4, b5⟩ := k3 x (by omega)
  exact ⟨b1.trans a1, b2.trans a2, fun z => (b3 (fun y => z (hD x hx y))).trans (a3 z), fun z => (b4 (fun y => z (hR x hx y))).trans (a4 z), fun z => (b5 (fun y => z (hS x hx y))).trans (a5 z)⟩
theorem FD.mono {S R D S' R' D' : Nat → Prop} (h : FD S R D M M1) (hS : ∀ x, x < mZ M → S x → S' x) (hR : ∀ x, x < mZ M → R x → R' x) (hD : ∀ x, x < mZ M → D x → D' x) : FD S' R' D' M M1 :=
  ⟨h.1, fun x hx => ⟨(h.2 x hx).1, (h.2 x hx).2.1, fun z => (h.2 x hx).2.2.1 (fun y => z (hD x hx y)), fun z => (h.2 x hx).2.2.2.1 (fun y => z (hR x hx y)), fun z => (h.2 x hx).2.2.2.2 (fun y => z (hS x hx y))⟩⟩
theorem FA.fd {S R D : Nat → Prop} (h : FA S R M M1) : FD S R D M M1 := ⟨h.1, fun x hx => ⟨(h.2 x hx).1, (h.2 x hx).2.1, fun _ => (h.2 x hx).2.2.1, (h.2 x hx).2.2.2.1, (h.2 x hx).2.2.2.2⟩⟩
/-- numbers of T, the small factors of the fractions of I, the Scales' longs, and (where r) its own references -/
def NL (L : List Nat) (W : Nat → Nat) (T I : Nat → Prop) (r : Prop) (z : Nat) (M M' : mM) : Prop := (mOk M' ∧ NF L W M') ∧ ((∀ t, T t → t ∈ L) ∧ (∀ x, I x → x < mZ M ∧ mK M x = 11) ∧ (z < mZ M ∧ mK M z = 9)) ∧ FD (fun x => nsS M T x ∨ I x) (fun x => T x ∨ (x = z ∧ r)) (fun x => x = z + 13) M M' ∧ (∀ t, T t → mR M' t 0 = mR M t 0 ∨ mZ M ≤ mR M' t 0) ∧ RmN L M M'
theorem NL.nf (h : NL L W T I r z M M') : NF L W M' := h.1.2
theorem NL.ok (h : NL L W T I r z M M') : mOk M' := h.1.1
theorem NL.kind (h : NL L W T I r z M M') {x : Nat} (hx : x < mZ M) : mK M' x = mK M x := (h.2.2.1.2 x hx).1
theorem NL.refl (hO : mOk M) (h : NF L W M) (hT : ∀ t, T t → t ∈ L) (hI : ∀ x, I x → x < mZ M ∧ mK M x = 11) (hz : z < mZ M ∧ mK M z = 9) : NL L W T I r z M M := ⟨⟨hO, h⟩, ⟨hT, hI, hz⟩, FD.refl, fun _ _ => Or.inl rfl, RmN.refl⟩
theorem NL.trans (h : NL L W T I r z M M1) (k : NL L W T I r z M1 M2) : NL L W T I r z M M2 := by
  obtain ⟨-, h2, h3, h4, h5⟩ := h
  obtain ⟨k1, -, k3, k4, k5⟩ := k
  refine ⟨k1, h2, h3.trans2 k3 ?_ (fun _ _ y => y) (fun _ _ y => y), fun t ht => ?_, h5.trans k5⟩
  · intro x hx u
    rcases u with (u | ⟨t, ht, u⟩) | u
    · exact Or.inl (Or.inl u)
    · rcases h4 t ht with q | q
      · exact Or.inl (Or.inr ⟨t, ht, by rw [u, q]⟩)
      · omega
    · exact Or.inr u
  · rcases k4 t ht with q | q
    · rw [q]; exact h4 t ht
    · exact Or.inr (Nat.le_trans h3.1.1 q)
theorem NF.nz (hF : NF L W M) (hz : mK M z = 9) (ha : a ∈ L) : a ≠ z ∧ mR M a 0 ≠ z := by
  have h1 := hF.kd ha
  have h2 := hF.ka ha
  exact ⟨fun u => by rw [u, hz] at h1; omega, fun u => by rw [u, hz] at h2; omega⟩
theorem NF.nI (hF : NF L W M) {x : Nat} (hx : mK M x = 11) (ha : a ∈ L) : a ≠ x ∧ mR M a 0 ≠ x := by
  have h1 := hF.kd ha
  have h2 := hF.ka ha
  exact ⟨fun u => by rw [u, hx] at h1; omega, fun u => by rw [u, hx] at h2; omega⟩
theorem NL.mono (h : NL L W T I r z M M1) (hr : NF L W M) (hT : ∀ t, T t → T' t) (hL : ∀ t, T' t → t ∈ L) (hI : ∀ x, I x → I' x) (hI' : ∀ x, I' x → x < mZ M ∧ mK M x = 11) (rr : r → r') : NL L W T' I' r' z M M1 := by
  obtain ⟨h1, ⟨-, -, hz⟩, h3, h4, h5⟩ := h
  refine ⟨h1, ⟨hL, hI', hz⟩, h3.mono (fun x _ u => ?_) (fun x _ u => u.elim (fun u => Or.inl (hT x u)) (fun u => Or.inr ⟨u.1, rr u.2⟩)) (fun _ _ u => u), fun t ht => ?_, h5⟩
  · rcases u with (u | ⟨t, ht, u⟩) | u
    · exact Or.inl (Or.inl (hT x u))
    · exact Or.inl (Or.inr ⟨t, hT t ht, u⟩)
    · exact Or.inr (hI x u)
  · by_cases c : T t
    · exact h4 t c
    · refine Or.inl ?_
      rw [(h3.2 t (hr.lt (hL t ht)).1).2.2.2.1 (fun u => u.elim c (fun u => (hr.nz hz.2 (hL t ht)).1 u.1))]
theorem NC.nl (h : NC L W T M M1) (hI : ∀ x, I x → x < mZ M ∧ mK M x = 11) (hz : z < mZ M ∧ mK M z = 9) : NL L W T I r z M M1 := by
  obtain ⟨h1, h2, h3, h4, h5⟩ := h
  exact ⟨h1, ⟨h2, hI, hz⟩, (h3.fd (D := fun x => x = z + 13)).mono (fun x _ u => Or.inl u) (fun x _ u => Or.inl u) (fun _ _ u => u), h4, h5⟩
/-- what is not of T stays -/
theorem NL.num (h : NL L W T I r z M M') (hF : NF L W M) (hb : b ∈ L) (hT : ¬ T b) : mR M' b = mR M b ∧ sz M' b = sz M b ∧ nv M' b = nv M b := by
  obtain ⟨-, ⟨h2, hI, hz⟩, h3, h4, -⟩ := h
  obtain ⟨z1, z2⟩ := hF.lt hb
  have n1 : ¬ (nsS M T b ∨ I b) := by
    rintro ((u | ⟨t, ht, u⟩) | u)
    · exact hT u
    · exact hF.na hb (h2 t ht) u
    · exact (hF.nI (hI b u).2 hb).1 rfl
  have n2 : ¬ (nsS M T (mR M b 0) ∨ I (mR M b 0)) := by
    rintro ((u | ⟨t, ht, u⟩) | u)
    · exact hF.na (h2 _ u) hb rfl
    · exact hT (by rw [hF.2.2 b t hb (h2 t ht) u]; exact ht)
    · exact (hF.nI (hI _ u).2 hb).2 rfl
  have a1 := (h3.2 b z1).2.2.2.1 (fun u => u.elim hT (fun u => (hF.nz hz.2 hb).1 u.1))
  have a2 := (h3.2 b z1).2.2.2.2 n1
  have a3 := (h3.2 _ z2).2.2.2.2 n2
  have a4 : sz M' b = sz M b := by unfold sz; rw [a2]
  exact ⟨a1, a4, by unfold nv; rw [a4, a1, a3]⟩
/-- other cells stay: f is no number, no number's limbs, not the Scales -/
theorem NL.cell (h : NL L W T I r z M M') (hF : NF L W M) {x : Nat} (hx : x < mZ M) (h10 : mK M x ≠ 10) (h30 : mK M x ≠ 30) (h9 : mK M x ≠ 9) : mK M' x = mK M x ∧ mN M' x = mN M x ∧ mR M' x = mR M x ∧ (¬ I x → mI M' x = mI M x) := by
  obtain ⟨-, ⟨h2, hI, hz⟩, h3, h4, -⟩ := h
  obtain ⟨a1, a2, a3, a4, a5⟩ := h3.2 x hx
  refine ⟨a1, a2, a4 ?_, fun ni => a5 ?_⟩
  · rintro (u | ⟨u, -⟩)
    · exact h10 (hF.kd (h2 x u))
    · rw [u] at h9; exact h9 hz.2
  · rintro ((u | ⟨t, ht, u⟩) | u)
    · exact h10 (hF.kd (h2 x u))
    · rw [u] at h30; exact h30 (hF.ka (h2 t ht))
    · exact ni u
/-- the search for factors is a step -/
theorem FLo.nl (h : FLo (z + 13) M M') (o : mOk M') (hF : NF L W M) (hT : ∀ t, T t → t ∈ L) (hI : ∀ x, I x → x < mZ M ∧ mK M x = 11) (hz : z < mZ M ∧ mK M z = 9) : NL L W T I r z M M' := by
  obtain ⟨h1, h2, h3, h4, h5, h6, h7⟩ := h
  have cc : ∀ b, cp M' b = cp M b := fun b => by unfold cp; rw [h3, h2]
  have nt' : ∀ {a Y C s : Nat}, Nt M a Y C s → Nt M' a Y C s := by
    intro a Y C s t
    unfold Nt Nl lim at t ⊢
    rw [h1, h2, h3, h4, h5]
    exact t
  refine ⟨⟨o, hF.1, fun a ha => ⟨(nt' (hF.nt ha)).nn, by rw [cc]; exact (hF.2.1 a ha).2.1, (hF.2.1 a ha).2.2⟩, fun a b ha hb u => hF.2.2 a b ha hb (by rw [← h3]; exact u)⟩, ⟨hT, hI, hz⟩, ⟨⟨by rw [h5]; exact Nat.le_refl _, by rw [h6]; exact Nat.le_refl _⟩, fun x _ => ⟨by rw [h1], by rw [h2], fun u => h7 x u, fun _ => by rw [h3], fun _ => by rw [h4]⟩⟩, fun t _ => Or.inl (by rw [h3]), ?_⟩
  unfold RmN
  rw [show cp M' = cp M from funext cc, h5, h6]
  exact ⟨Nat.le_refl _, Nat.le_refl _⟩
theorem FLo.nv (h : FLo z M M') (a : Nat) : nv M' a = nv M a ∧ sz M' a = sz M a := by
  obtain ⟨h1, h2, h3, h4, h5, h6, h7⟩ := h
  unfold Jvm.Pilot.CChanceArenaLaw_law_r4447_bd93c6.nv sz
  rw [h3, h4]
  exact ⟨rfl, rfl⟩
/-- a fraction's places -/
def FrP (M : mM) (f : Nat) : Prop := mK M f = 11 ∧ (mR M f 0 = f + 1 ∧ mR M f 1 = f + 3) ∧ f < mZ M
/-- the Scales' places -/
def SK (L : List Nat) (M : mM) (z : Nat) : Prop := (mK M z = 9 ∧ z < mZ M) ∧ (mR M z 0 = z + 1 ∧ mR M z 1 = z + 3 ∧ mR M z 2 = z + 5 ∧ mR M z 3 = z + 7 ∧ mR M z 4 = z + 9 ∧ mR M z 5 = z + 11 ∧ mR M z 6 = z + 13 ∧ mR M z 7 = z + 14 ∧ mR M z 8 = z + 16) ∧ ((mR M z 9 = z + 18 ∧ mR M z 10 = z + 23) ∨ (mR M z 9 = z + 23 ∧ mR M z 10 = z + 18)) ∧ (mK M (z + 13) = 33 ∧ mN M (z + 13) = 4 ∧ z + 13 < mZ M) ∧ (FrP M (z + 18) ∧ FrP M (z + 23)) ∧ (z + 1 ∈ L ∧ z + 3 ∈ L ∧ z + 5 ∈ L ∧ z + 7 ∈ L ∧ z + 9 ∈ L ∧ z + 11 ∈ L ∧ z + 14 ∈ L ∧ z + 16 ∈ L) ∧ (z + 19 ∈ L ∧ z + 21 ∈ L ∧ z + 24 ∈ L ∧ z + 26 ∈ L)
theorem NL.frp (h : NL L W T I r z M M') (hF : NF L W M) {f : Nat} (hf : FrP M f) : FrP M' f ∧ (¬ I f → mI M' f = mI M f) := by
  obtain ⟨k, p, l⟩ := hf
  obtain ⟨a1, a2, a3, a4⟩ := h.cell hF l (by rw [k]; decide) (by rw [k]; decide) (by rw [k]; decide)
  exact ⟨⟨by rw [a1]; exact k, by rw [a3]; exact p, Nat.lt_of_lt_of_le l h.2.2.1.1.1⟩, a4⟩
theorem NL.sk (h : NL L W T I False z M M') (hF : NF L W M) (hS : SK L M z) : SK L M' z := by
  obtain ⟨⟨k1, k2⟩, k3, k4, ⟨k5, k6, k7⟩, ⟨k8, k9⟩, k10, k11⟩ := hS
  have zz := h.2.2.1.1.1
  have rz : mR M' z = mR M z := (h.2.2.1.2 z k2).2.2.2.1 (fun u => u.elim (fun u => (hF.nz k1 (h.2.1.1 z u)).1 rfl) (fun u => u.2))
  obtain ⟨a1, a2, -⟩ := h.cell hF k7 (by rw [k5]; decide) (by rw [k5]; decide) (by rw [k5]; decide)
  exact ⟨⟨by rw [h.kind k2]; exact k1, Nat.lt_of_lt_of_le k2 zz⟩, by rw [rz]; exact k3, by rw [rz]; exact k4, ⟨by rw [a1]; exact k5, by rw [a2]; exact k6, Nat.lt_of_lt_of_le k7 zz⟩, ⟨(h.frp hF k8).1, (h.frp hF k9).1⟩, k10, k11⟩
end NAR
end
section
/-! The Scales: a greatest common divisor. -/
section NAS
variable {G : mG} {d a b c z n m w S : Nat} {M M' M1 M2 M3 : mM} {L : List Nat} {W : Nat → Nat} {T T' I I' : Nat → Prop} {r r' : Prop} {u0 v0 : Int}
/-- the four numbers that it works with -/
def T4 (z x : Nat) : Prop := x = z + 1 ∨ x = z + 3 ∨ x = z + 5 ∨ x = z + 7
theorem SK.t4 (h : SK L M z) : ∀ t, T4 z t → t ∈ L := by
  intro t ht
  obtain ⟨-, -, -, -, -, ⟨h1, h2, h3, h4, -⟩, -⟩ := h
  rcases ht with u | u | u | u
  · rw [u]; exact h1
  · rw [u]; exact h2
  · rw [u]; exact h3
  · rw [u]; exact h4
theorem SK.z9 (h : SK L M z) : z < mZ M ∧ mK M z = 9 := ⟨h.1.2, h.1.1⟩
/-- the larger and the smaller -/
def Lsm (z a b : Nat) : Prop := (a = z + 1 ∧ b = z + 3) ∨ (a = z + 3 ∧ b = z + 1)
theorem Lsm.swap (h : Lsm z a b) : Lsm z b a := h.elim (fun u => Or.inr ⟨u.2, u.1⟩) (fun u => Or.inl ⟨u.2, u.1⟩)
theorem Lsm.t1 (h : Lsm z a b) : T4 z a ∧ T4 z b := by
  rcases h with ⟨u, v⟩ | ⟨u, v⟩
  · exact ⟨Or.inl u, Or.inr (Or.inl v)⟩
  · exact ⟨Or.inr (Or.inl u), Or.inl v⟩
theorem Lsm.ne (h : Lsm z a b) : a ≠ b ∧ a ≠ z + 5 ∧ a ≠ z + 7 ∧ b ≠ z + 5 ∧ b ≠ z + 7 := by
  rcases h with ⟨u, v⟩ | ⟨u, v⟩ <;> subst u <;> subst v <;> omega
/-- room for numbers of S limbs -/
def W4 (W : Nat → Nat) (z S : Nat) : Prop := S + 2 ≤ W (z + 1) ∧ S + 2 ≤ W (z + 3) ∧ S + 2 ≤ W (z + 5) ∧ S + 2 ≤ W (z + 7)
theorem Lsm.wd (h : Lsm z a b) (hw : W4 W z S) : S + 2 ≤ W a ∧ S + 2 ≤ W b := by
  obtain ⟨h1, h2, -, -⟩ := hw
  rcases h with ⟨u, v⟩ | ⟨u, v⟩ <;> subst u <;> subst v
  · exact ⟨h1, h2⟩
  · exact ⟨h2, h1⟩
def gdQ (L : List Nat) (W : Nat → Nat) (z : Nat) (u0 v0 : Int) (M : mM) (r : Nat) (M' : mM) : Prop := (r = z + 1 ∨ r = z + 3) ∧ NL L W (T4 z) (fun _ => False) False z M M' ∧ 0 < nv M' r ∧ nv M' r ∣ u0 ∧ nv M' r ∣ v0 ∧ ∀ g : Int, g ∣ u0 → g ∣ v0 → g ∣ nv M' r
theorem Lsm.rr (h : Lsm z a b) : a = z + 1 ∨ a = z + 3 := h.elim (fun u => Or.inl u.1) (fun u => Or.inr u.1)
theorem noI : ∀ x, (fun _ : Nat => False) x → x < mZ M ∧ mK M x = 11 := fun _ u => u.elim
/-- small numbers -/
theorem s_gc_small {M0 : mM} (hO : mOk M) (hF : NF L W M) (hF0 : NF L W M0) (hS : SK L M z) (hN : NL L W (T4 z) (fun _ => False) False z M0 M) (ls : Lsm z a b) (de : DE u0 v0 (nv M a) (nv M b)) (ab : nv M b ≤ nv M a) (p : 0 < nv M a) (s2 : sz M a < 3) : Cj G y_Na_bitsFrom (d + 3) [vr a, vi 0] M (fun x70 M69 => i64 x70 ∧ mOk M69 ∧ (mK M69 b = 10 ∧ Cj G y_Na_bitsFrom (d + 3) [vr b, vi 0] M69 (fun x74 M73 => i64 x74 ∧ mOk M73 ∧ (Cj G y_Ma_commonDivisor (d + 3) [vl x70, vl x74] M73 (fun x77 M76 => i64 x77 ∧ mOk M76 ∧ (mK M76 a = 10 ∧ Cv G y_Na_putLong (d + 3) [vr a, vl x77] M76 (fun M80 => mOk M80 ∧ (gdQ L W z u0 v0 M0 a M80)))))))) := by
  have hT := hS.t4
  have ha := hT a ls.t1.1
  have hb := hT b ls.t1.2
  have va : nv M a < 1152921504606846976 := by
    have h1 := hF.vlt ha
    have h2 := p30m (m := sz M a) (k := 2) (by omega)
    have h3 : (2 : Int) ^ (30 * 2) = 1152921504606846976 := by decide
    omega
  have nb := hF.nn0 hb
  have h60 : (2 : Int) ^ (0 + 60) = 1152921504606846976 := by decide
  have h1 : ∀ x : Int, x / 2 ^ 0 = x := fun x => by rw [show (2 : Int) ^ 0 = 1 by decide, Int.ediv_one]
  refine (s_Na_bitsFrom (bit := 0) hO (hF.nt ha) (by decide) (by rw [h60]; exact va)).mono (fun x M69 k => ?_)
  obtain ⟨e1, e2⟩ := k
  rw [h1] at e2
  have e2' : x = nv M a := e2
  rw [e1, e2']
  refine ⟨⟨by omega, by omega⟩, hO, hF.kd hb, (s_Na_bitsFrom (bit := 0) hO (hF.nt hb) (by decide) (by rw [h60]; exact Int.lt_of_le_of_lt ab va)).mono (fun y M73 k => ?_)⟩
  obtain ⟨f1, f2⟩ := k
  rw [h1] at f2
  have f2' : y = nv M b := f2
  rw [f1, f2']
  obtain ⟨x, hx⟩ : ∃ x : Nat, nv M a = ((x : Nat) : Int) := ⟨(nv M a).toNat, by omega⟩
  obtain ⟨y, hy⟩ : ∃ y : Nat, nv M b = ((y : Nat) : Int) := ⟨(nv M b).toNat, by omega⟩
  rw [hx] at de p va ab ⊢
  rw [hy] at de nb ab ⊢
  refine ⟨⟨by omega, by omega⟩, hO, (s_Ma_gcdL (x := x) (y := y) (by omega) (by omega) (by omega) hO).mono (fun g M76 k => ?_)⟩
  obtain ⟨g1, w, g2, g3, g4, g5, g6⟩ := k
  rw [g1, g2]
  refine ⟨⟨by omega, by omega⟩, hO, hF.kd ha, (f_putLong (d := d + 2) (x := ((w : Nat) : Int)) ⟨by omega, by omega⟩ hO hF ha).mono (fun M80 k => ?_)⟩
  obtain ⟨c1, v1⟩ := k
  have dv := (de ((w : Nat) : Int)).2 ⟨Int.natCast_dvd_natCast.2 g4, Int.natCast_dvd_natCast.2 g5⟩
  refine ⟨c1.ok, ls.rr, hN.trans ((c1.nl noI hS.z9).mono hF (fun t ht => by rw [ht]; exact ls.t1.1) hT (fun _ u => u) noI (fun u => u)), by rw [v1]; omega, by rw [v1]; exact dv.1, by rw [v1]; exact dv.2, fun g a1 a2 => ?_⟩
  rw [v1]
  obtain ⟨b1, b2⟩ := (de g).1 ⟨a1, a2⟩
  have q := g6 g.natAbs (Int.natAbs_dvd_natAbs.2 b1) (Int.natAbs_dvd_natAbs.2 b2)
  exact Int.natAbs_dvd_natAbs.1 q
theorem pr_h2 {k : Nat} {x y t : Int} (h : x * y < 2 ^ (k + 1)) (h2 : 2 * t ≤ x * y) : t < 2 ^ k := by
  rw [Int.pow_succ] at h
  omega
/-- the loop -/
theorem s_gc58 {M0 : mM} (hF0 : NF L W M0) (hS0 : SK L M0 z) (hw : W4 W z S) : ∀ (t i a b : Nat) (M : mM), 1000000 = i + t → NL L W (T4 z) (fun _ => False) False z M0 M → Lsm z a b → DE u0 v0 (nv M a) (nv M b) → nv M b ≤ nv M a → 0 < nv M a → sz M a ≤ S → nv M a * nv M b < 2 ^ t → h_Sc_commonDivisor_58 G (d + 3) z a b i M (gdQ L W z u0 v0 M0) := by
  have fin : ∀ {a b : Nat} {M : mM}, NL L W (T4 z) (fun _ => False) False z M0 M → Lsm z a b → DE u0 v0 (nv M a) (nv M b) → 0 < nv M a → nv M b = 0 → gdQ L W z u0 v0 M0 a M := by
    intro a b M hN ls de p z0
    have dv := (de (nv M a)).2 ⟨Int.dvd_refl _, by rw [z0]; exact Int.dvd_zero _⟩
    exact ⟨ls.rr, hN, p, dv.1, dv.2, fun g a1 a2 => ((de g).1 ⟨a1, a2⟩).1⟩
  intro t
  induction t with
  | zero =>
    intro i a b M ht hN ls de ab p hs pr
    have hS := hN.sk hF0 hS0
    have hF := hN.nf
    have ha := hS.t4 a ls.t1.1
    have hb := hS.t4 b ls.t1.2
    have nb := hF.nn0 hb
    have z0 : nv M b = 0 := by
      refine Classical.byContradiction (fun u => ?_)
      have := Int.mul_le_mul_of_nonneg_left (show 1 ≤ nv M b by omega) (Int.le_of_lt p)
      have e : (2 : Int) ^ 0 = 1 := by decide
      omega
    exact k_Sc_commonDivisor_58 hN.ok ⟨by omega, by omega⟩ ⟨fun u => absurd (by omega) u, fun _ => fin hN ls de p z0, fun u => absurd (Or.inl (by omega)) u⟩
  | succ t ih =>
    intro i a b M ht hN ls de ab p hs pr
    have hS := hN.sk hF0 hS0
    have hF := hN.nf
    have hO := hN.ok
    have ha := hS.t4 a ls.t1.1
    have hb := hS.t4 b ls.t1.2
    have nb := hF.nn0 hb
    have tb := hF.nt hb
    have ta := hF.nt ha
    have sb := hF.szm hF hb ha ab
    obtain ⟨n1, n2, n3, n4, n5⟩ := ls.ne
    refine k_Sc_commonDivisor_58 hO ⟨by omega, by omega⟩ ?_
    rw [tb.2.1, ta.2.1]
    refine ⟨fun _ => hF.kd hb, fun u => fin hN ls de p ((hF.sz0 hb).1 (by omega)), fun u => ⟨hF.kd ha, fun y => ?_, fun y => s_gc_small (d := d) hO hF hF0 hS hN ls de ab p (by omega)⟩⟩
    have b0 : 0 < nv M b := by
      refine Classical.byContradiction (fun w => u (Or.inr ?_))
      have := (hF.sz0 hb).2 (by omega)
      omega
    refine (s_Na_bits (d := d + 2) hO ta).mono (fun x42 M41 k => ?_)
    obtain ⟨e1, n, e2, k1, k2, k3, -⟩ := k
    obtain ⟨k4, k5⟩ := k3 (by omega)
    have k2' : nv M a < 2 ^ n := k2
    have cb := hF.cb ha
    have sc := hF.sc ha
    rw [e1, e2, show ((n : Nat) : Int) - 60 = ((n - 60 : Nat) : Int) by omega]
    have n60 : n - 60 + 60 = n := by omega
    refine ⟨⟨by omega, by omega⟩, hO, hF.kd ha, (s_Na_bitsFrom (bit := n - 60) hO ta (by omega) (by rw [n60]; exact k2)).mono (fun x46 M45 k => ?_)⟩
    obtain ⟨f1, f2⟩ := k
    have K0 : (0 : Int) < 2 ^ (n - 60) := Int.pow_pos (by decide)
    have kk : nv M a < 2 ^ (n - 60) * 1152921504606846976 := by
      rw [show (1152921504606846976 : Int) = 2 ^ 60 by decide, ← Int.pow_add, n60]
      exact k2'
    have f2' : x46 = nv M a / 2 ^ (n - 60) := f2
    have q1 : 0 ≤ nv M a / 2 ^ (n - 60) := Int.ediv_nonneg (by omega) (by omega)
    have q2 : nv M a / 2 ^ (n - 60) < 1152921504606846976 := Int.ediv_lt_of_lt_mul K0 (by rw [Int.mul_comm]; exact kk)
    have q3 : 0 ≤ nv M b / 2 ^ (n - 60) := Int.ediv_nonneg (by omega) (by omega)
    have q4 : nv M b / 2 ^ (n - 60) < 1152921504606846976 := Int.ediv_lt_of_lt_mul K0 (by rw [Int.mul_comm]; omega)
    rw [f1, f2']
    refine ⟨⟨by omega, by omega⟩, hO, hF.kd hb, (s_Na_bitsFrom (bit := n - 60) hO tb (by omega) (by rw [n60]; exact Int.lt_of_le_of_lt ab k2)).mono (fun x50 M49 k => ?_)⟩
    obtain ⟨g1, g2⟩ := k
    have g2' : x50 = nv M b / 2 ^ (n - 60) := g2
    rw [g1, g2']
    obtain ⟨⟨s1, s1'⟩, ⟨-, -, s2, s3, -, -, s4, -⟩, -, ⟨s5, s6, s7⟩, -⟩ := id hS
    refine ⟨⟨by omega, by omega⟩, hO, s1, (s_Sc_findFactors (e := d + 2) K0 hO s1 s4 s5 s6 kk (Int.le_of_lt b0) ab).mono (fun x54 M53 k => ?_)⟩
    obtain ⟨o53, F53, fa, fb, fc, fd, ⟨l0, l1, l2, l3⟩, ⟨j0, j1, j2, j3⟩, ⟨o1, o2, o3⟩, de2, pr2, x01⟩ := k
    have nl53 : NL L W (T4 z) (fun _ => False) False z M M53 := F53.nl o53 hF hS.t4 noI hS.z9
    have hN53 := hN.trans nl53
    have hF53 := nl53.nf
    have hS53 := nl53.sk hF hS
    obtain ⟨va, sa⟩ := F53.nv a
    obtain ⟨vb, sb'⟩ := F53.nv b
    obtain ⟨⟨m1, m1'⟩, ⟨-, -, m2, m3, -, -, m4, -⟩, -, ⟨m5, m6, m7⟩, -, ⟨-, -, m8, m9, -⟩, -⟩ := id hS53
    obtain ⟨w1, w2⟩ := ls.wd hw
    obtain ⟨-, -, w5, w7⟩ := id hw
    refine ⟨by rcases x01 with u | u <;> rw [u] <;> exact ⟨by decide, by decide⟩, o53, fun x0 => ⟨m1, hF53.kd ha, ?_⟩, fun x1 => ⟨m1, ?_⟩⟩
    · rw [m2, m3]
      refine (f_divide (d := d) o53 hF53 ha hb m8 m9 n1 n2 n3 n4 n5 (by omega) (by omega) (by omega) (by omega) (by omega)).mono (fun M62 k => ?_)
      obtain ⟨c1, e1', r1⟩ := k
      obtain ⟨-, -, -, b4, b5, -⟩ := c1.num hF53 hb (fun u => by rcases u with u | u | u <;> omega)
      rw [va, vb] at e1'
      rw [vb] at r1 b5
      have hF62 := c1.nf
      have r0 := hF62.nn0 ha
      have q1 : 1 ≤ nv M62 (z + 5) := by
        refine Classical.byContradiction (fun u => ?_)
        have := Int.mul_le_mul_of_nonneg_left (show nv M62 (z + 5) ≤ 0 by omega) (Int.le_of_lt b0)
        omega
      have er : nv M62 a = nv M a - nv M62 (z + 5) * nv M b := by rw [Int.mul_comm]; omega
      have hf := eu_half (Int.le_of_lt b0) ab ⟨r0, r1⟩ q1 er
      rw [show ((i : Int) + 1) = ((i + 1 : Nat) : Int) by omega]
      refine ⟨c1.ok, ih (i + 1) b a M62 (by omega) (hN53.trans ((c1.nl noI hS53.z9).mono hF53 (fun t ht => ?_) hS53.t4 (fun _ u => u) noI (fun u => u))) ls.swap ?_ (by omega) (by omega) (by omega) (by rw [b5]; exact pr_h2 pr hf)⟩
      · rcases ht with u | u | u
        · rw [u]; exact ls.t1.1
        · exact Or.inr (Or.inr (Or.inl u))
        · exact Or.inr (Or.inr (Or.inr u))
      · rw [b5, er]
        exact de.trans (DE.step _)
    · rw [m4]
      have vl := hF.vlt ha
      refine (f_combine (d := d) o53 hF53 ha hb n1 (by omega) (by omega) m5 m6 m7 l0 l1 l2 l3 j0 j1 j2 j3 (by rw [va, vb, sa]; omega) (by rw [va, vb, sa]; omega)).mono (fun M66 k => ?_)
      obtain ⟨c1, e1', e2'⟩ := k
      rw [va, vb] at e1' e2'
      have hF66 := c1.nf
      rw [← e1', ← e2'] at de2 pr2
      have up : 0 < nv M66 a := by
        refine Classical.byContradiction (fun u => ?_)
        have z1 : nv M66 a = 0 := by have := hF66.nn0 ha; omega
        have z2 : nv M66 b = 0 := by have := hF66.nn0 hb; omega
        have := ((de2 (nv M a + 1)).2 ⟨by rw [z1]; exact Int.dvd_zero _, by rw [z2]; exact Int.dvd_zero _⟩).1
        have := Int.le_of_dvd p this
        omega
      have s66 : sz M66 a ≤ sz M a := hF66.szm hF ha ha (by omega)
      rw [show ((i : Int) + 1) = ((i + 1 : Nat) : Int) by omega]
      refine ⟨c1.ok, ih (i + 1) a b M66 (by omega) (hN53.trans ((c1.nl noI hS53.z9).mono hF53 (fun t ht => ?_) hS53.t4 (fun _ u => u) noI (fun u => u))) ls (de.trans de2) (by omega) up (by omega) (pr_h2 pr (by rcases pr2 with u | u <;> first | exact absurd u x1 | exact u))⟩
      rcases ht with u | u
      · rw [u]; exact ls.t1.1
      · rw [u]; exact ls.t1.2
/-- a common divisor -/
theorem f_common {one other : Nat} (hO : mOk M) (hF : NF L W M) (hS : SK L M z) (h1 : one ∈ L) (h2 : other ∈ L) (t1 : ¬ T4 z one) (t2 : ¬ T4 z other) (pp : 0 < nv M one ∨ 0 < nv M other) (s1 : sz M one ≤ S) (s2 : sz M other ≤ S) (hS2 : S ≤ 16000) (hw : W4 W z S) : Cr G y_Sc_commonDivisor (d + 4) [vr z, vr one, vr other] M (gdQ L W z (nv M one) (nv M other) M) := by
  obtain ⟨⟨k1, k1'⟩, ⟨k2, k3, -⟩, -, -, -, ⟨k4, k5, -⟩, -⟩ := id hS
  obtain ⟨w1, w3, -⟩ := id hw
  refine k_Sc_commonDivisor hO ⟨k1, (f_order (d := d + 3) hO hF h1 h2).mono (fun x3 M2 k => ?_)⟩
  obtain ⟨e, ox⟩ := k
  rw [e, k2, k3]
  have xi : i32 x3 := by unfold orQ at ox; exact ⟨by omega, by omega⟩
  -- which of them is the larger one
  obtain ⟨big, sml, eb, es, hb, hs, tb, ts, pb, ps, lb, ls, le, de⟩ : ∃ big sml : Nat, (if (if (x3 < 0) then (0 : Int) else 1) = 0 then other else one) = big ∧ (if (if (x3 < 0) then (0 : Int) else 1) = 0 then one else other) = sml ∧ big ∈ L ∧ sml ∈ L ∧ ¬ T4 z big ∧ ¬ T4 z sml ∧ 0 < nv M big ∧ 0 ≤ nv M sml ∧ sz M big ≤ S ∧ sz M sml ≤ S ∧ nv M sml ≤ nv M big ∧ DE (nv M one) (nv M other) (nv M big) (nv M sml) := by
    unfold orQ at ox
    have n1 := hF.nn0 h1
    have n2 := hF.nn0 h2
    by_cases c : x3 < 0
    · rw [if_pos c, if_pos rfl, if_pos rfl]
      exact ⟨other, one, rfl, rfl, h2, h1, t2, t1, by omega, n1, s2, s1, by omega, DE.swap⟩
    · rw [if_neg c, if_neg (by decide), if_neg (by decide)]
      exact ⟨one, other, rfl, rfl, h1, h2, t1, t2, by omega, n2, s1, s2, by omega, DE.refl⟩
  refine ⟨xi, hO, fun v6 e6 v12 e12 => ⟨hF.kd k4, ?_⟩⟩
  rw [e6, eb] at e12
  rw [e12]
  refine (f_put1 (d := d + 2) hO hF k4 hb (fun u => tb (Or.inl u.symm)) (by omega)).mono (fun M16 k => ?_)
  obtain ⟨c1, v1⟩ := k
  have F1 := c1.nf
  refine ⟨c1.ok, fun v20 e20 => ⟨F1.kd k5, ?_⟩⟩
  rw [e6, es] at e20
  rw [e20]
  obtain ⟨-, -, -, n4, n5, -⟩ := c1.num hF hs (fun u => ts (Or.inl u))
  refine (f_put1 (d := d + 2) c1.ok F1 k5 hs (fun u => ts (Or.inr (Or.inl u.symm))) (by omega)).mono (fun M24 k => ?_)
  obtain ⟨c2, v2⟩ := k
  have F2 := c2.nf
  obtain ⟨-, -, -, a4, a5, -⟩ := c2.num F1 k4 (show z + 1 ≠ z + 3 by omega)
  rw [v1] at a5
  rw [n5] at v2
  have sb : sz M24 (z + 1) ≤ sz M big := F2.szm hF k4 hb (by omega)
  have nl1 := (c1.nl (I := fun _ => False) (r := False) noI hS.z9).mono (T' := T4 z) hF (fun t ht => Or.inl ht) hS.t4 (fun _ u => u) noI (fun u => u)
  have hS1 := nl1.sk hF hS
  have nl2 := (c2.nl (I := fun _ => False) (r := False) noI hS1.z9).mono (T' := T4 z) F1 (fun t ht => Or.inr (Or.inl ht)) hS.t4 (fun _ u => u) noI (fun u => u)
  refine ⟨c2.ok, s_gc58 (d := d) hF hS hw 1000000 0 (z + 1) (z + 3) M24 rfl (nl1.trans nl2) (Or.inl ⟨rfl, rfl⟩) (by rw [a5, v2]; exact de) (by omega) (by omega) (by omega) ?_⟩
  have u1 := hF.vlt hb
  have u2 := hF.vlt hs
  have u3 := p30m lb
  have u4 := p30m ls
  rw [a5, v2]
  have u5 : nv M big * nv M sml ≤ 2 ^ (30 * S) * nv M sml := Int.mul_le_mul_of_nonneg_right (by omega) ps
  have u6 : (2 : Int) ^ (30 * S) * nv M sml < 2 ^ (30 * S) * 2 ^ (30 * S) := Int.mul_lt_mul_of_pos_left (by omega) (p30p S)
  rw [← Int.pow_add] at u6
  have u7 := p2m (m := 30 * S + 30 * S) (k := 1000000) (by omega)
  exact Int.lt_of_le_of_lt u5 (Int.lt_of_lt_of_le u6 u7)
end NAS
end
section
/-! The Scales: fractions, other cells, an order of two fractions. -/
section NAT
variable {G : mG} {d a b c z n m w f f' S x : Nat} {M M' M1 M2 M3 : mM} {L : List Nat} {W : Nat → Nat} {T T' I I' : Nat → Prop} {r r' : Prop} {u0 v0 : Int}
/-- a cell that is neither a number nor a number's limbs -/
def Oc (L : List Nat) (M : mM) (x : Nat) : Prop := x < mZ M ∧ x ∉ L ∧ ∀ a, a ∈ L → mR M a 0 ≠ x
theorem NL.oc (h : NL L W T I r z M M') (hF : NF L W M) (hx : Oc L M x) : Oc L M' x := by
  refine ⟨Nat.lt_of_lt_of_le hx.1 h.2.2.1.1.1, hx.2.1, fun a ha u => ?_⟩
  by_cases c : T a
  · rcases h.2.2.2.1 a c with q | q
    · exact hx.2.2 a ha (by rw [← q]; exact u)
    · have := hx.1
      omega
  · rw [(h.num hF ha c).1] at u
    exact hx.2.2 a ha u
theorem NL.oth (h : NL L W T I r z M M') (hx : Oc L M x) (hz : x ≠ z) : mK M' x = mK M x ∧ mN M' x = mN M x ∧ mR M' x = mR M x ∧ (¬ I x → mI M' x = mI M x) := by
  obtain ⟨-, ⟨h2, hI, -⟩, h3, -, -⟩ := h
  obtain ⟨a1, a2, a3, a4, a5⟩ := h3.2 x hx.1
  refine ⟨a1, a2, a4 (fun u => u.elim (fun u => hx.2.1 (h2 x u)) (fun u => hz u.1)), fun ni => a5 ?_⟩
  rintro ((u | ⟨t, ht, u⟩) | u)
  · exact hx.2.1 (h2 x u)
  · exact hx.2.2 t (h2 t ht) u.symm
  · exact ni u
theorem NC.v (h : NC L W (fun x => x = a) M M') (hF : NF L W M) (hb : b ∈ L) (ne : b ≠ a) : nv M' b = nv M b := (h.num hF hb ne).2.2.2.2.1
/-- a fraction whose numbers are of the family -/
def FrL (L : List Nat) (M : mM) (f : Nat) : Prop := FrP M f ∧ f + 1 ∈ L ∧ f + 3 ∈ L
theorem NL.frl (h : NL L W T I r z M M') (hF : NF L W M) (hf : FrL L M f) : FrL L M' f := ⟨(h.frp hF hf.1).1, hf.2⟩
/-- a small factor is written -/
theorem nl_times {v : Int} (hO : mOk M) (hF : NF L W M) (hf : FrL L M f) (hz : z < mZ M ∧ mK M z = 9) (hv : i32 v) (e : M' = mUI M f 2 v) (hT : ∀ t, T t → t ∈ L) (hI : I f) (hI' : ∀ x, I x → x < mZ M ∧ mK M x = 11) : NL L W T I r z M M' ∧ mI M' f 2 = v ∧ ∀ a, a ∈ L → nv M' a = nv M a := by
  have F : FI (fun x => x = f) M M' := by rw [e]; exact FI.ui rfl
  have o : mOk M' := by rw [e]; exact mOk_UI hO hv
  have ne : ∀ a, a ∈ L → a ≠ f ∧ mR M a 0 ≠ f := fun a ha => hF.nI hf.1.1 ha
  have cc : ∀ b, cp M' b = cp M b := fun b => by unfold cp; rw [F.2.2.1, F.2.1]
  have nt' : ∀ a, a ∈ L → Nt M' a (mR M a 0) (cp M a) (sz M a) := fun a ha => (hF.nt ha).fi F (ne a ha).1 (ne a ha).2
  refine ⟨⟨⟨o, hF.1, fun a ha => ⟨(nt' a ha).nn, by rw [cc]; exact (hF.2.1 a ha).2.1, (hF.2.1 a ha).2.2⟩, fun a b ha hb u => hF.2.2 a b ha hb (by rw [← F.2.2.1]; exact u)⟩, ⟨hT, hI', hz⟩, ((F.fa (R := fun _ => False)).fd (D := fun x => x = z + 13)).mono (fun x _ u => Or.inr (by rw [u]; exact hI)) (fun _ _ u => u.elim) (fun _ _ u => u), fun t _ => Or.inl (by rw [F.2.2.1]), ?_⟩, by rw [mI_ui f 2 e, if_pos ⟨rfl, rfl⟩], fun a ha => ?_⟩
  · unfold RmN
    rw [show cp M' = cp M from funext cc, F.2.2.2.2.1, F.2.2.2.2.2.1]
    exact ⟨Nat.le_refl _, Nat.le_refl _⟩
  · rw [(nt' a ha).nv]
    unfold nv
    rw [F.2.2.2.2.2.2 _ (ne a ha).2]
/-- a fraction's numbers -/
def T2 (f x : Nat) : Prop := x = f + 1 ∨ x = f + 3
theorem FrL.t2 (h : FrL L M f) : ∀ t, T2 f t → t ∈ L := fun t u => u.elim (fun u => by rw [u]; exact h.2.1) (fun u => by rw [u]; exact h.2.2)
theorem f_Fr_put0 {v : Int} (hv : 0 ≤ v ∧ v < 1073741824) (hO : mOk M) (hF : NF L W M) (hf : FrL L M f) (hz : z < mZ M ∧ mK M z = 9) : Cv G y_Fr_put0 (d + 1) [vr f, vi v] M (fun M' => NL L W (T2 f) (fun x => x = f) False z M M' ∧ nv M' (f + 1) = v ∧ nv M' (f + 3) = 1 ∧ mI M' f 2 = 1) := by
  have hI : ∀ x, (fun x => x = f) x → x < mZ M ∧ mK M x = 11 := fun x u => by rw [u]; exact ⟨hf.1.2.2, hf.1.1⟩
  obtain ⟨⟨k, ⟨r0, r1⟩, l⟩, m1, m3⟩ := id hf
  refine k_Fr_put0 hO (l30i hv) ?_
  rw [r0]
  refine ⟨k, hF.kd m1, (f_put0 hv hO hF m1).mono (fun M3 k3 => ?_)⟩
  obtain ⟨c1, v1⟩ := k3
  have F1 := c1.nf
  have n1 : NL L W (T2 f) (fun x => x = f) False z M M3 := (c1.nl (I := fun x => x = f) (r := False) hI hz).mono hF (fun t ht => Or.inl ht) hf.t2 (fun _ u => u) hI (fun u => u)
  have hf1 := n1.frl hF hf
  obtain ⟨⟨k1, ⟨-, r1'⟩, l1⟩, -⟩ := id hf1
  rw [r1']
  refine ⟨c1.ok, k1, F1.kd m3, (f_put0 ⟨by decide, by decide⟩ c1.ok F1 m3).mono (fun M8 k8 => ?_)⟩
  obtain ⟨c2, v2⟩ := k8
  have F2 := c2.nf
  have hz1 : z < mZ M3 ∧ mK M3 z = 9 := ⟨Nat.lt_of_lt_of_le hz.1 n1.2.2.1.1.1, by rw [n1.kind hz.1]; exact hz.2⟩
  have hI1 : ∀ x, (fun x => x = f) x → x < mZ M3 ∧ mK M3 x = 11 := fun x u => by rw [u]; exact ⟨l1, k1⟩
  have n2 : NL L W (T2 f) (fun x => x = f) False z M3 M8 := (c2.nl (I := fun x => x = f) (r := False) hI1 hz1).mono F1 (fun t ht => Or.inr ht) hf.t2 (fun _ u => u) hI1 (fun u => u)
  have hf2 := n2.frl F1 hf1
  have n12 := n1.trans n2
  refine ⟨c2.ok, hf2.1.1, fun M12 e12 => ?_⟩
  obtain ⟨n3, t3, w3⟩ := nl_times (T := T2 f) (I := fun x => x = f) (r := False) (z := z) c2.ok F2 hf2 ⟨Nat.lt_of_lt_of_le hz.1 n12.2.2.1.1.1, by rw [n12.kind hz.1]; exact hz.2⟩ ⟨by decide, by decide⟩ e12 hf.t2 rfl (fun x u => by rw [u]; exact ⟨hf2.1.2.2, hf2.1.1⟩)
  exact ⟨n12.trans n3, by rw [w3 _ m1, c2.v F1 m1 (by omega), v1], by rw [w3 _ m3, v2], t3⟩
theorem f_Fr_put1 (hO : mOk M) (hF : NF L W M) (hf : FrL L M f) (hg : FrL L M f') (ff : f ≠ f') (n1 : f + 1 ≠ f' + 3) (n2 : f + 3 ≠ f' + 1) (hz : z < mZ M ∧ mK M z = 9) (w1 : sz M (f' + 1) ≤ W (f + 1)) (w3 : sz M (f' + 3) ≤ W (f + 3)) : Cv G y_Fr_put1 (d + 2) [vr f, vr f'] M (fun M' => NL L W (T2 f) (fun x => x = f) False z M M' ∧ nv M' (f + 1) = nv M (f' + 1) ∧ nv M' (f + 3) = nv M (f' + 3) ∧ mI M' f 2 = mI M f' 2) := by
  have hI : ∀ x, (fun x => x = f) x → x < mZ M ∧ mK M x = 11 := fun x u => by rw [u]; exact ⟨hf.1.2.2, hf.1.1⟩
  obtain ⟨⟨k, ⟨r0, r1⟩, l⟩, m1, m3⟩ := id hf
  obtain ⟨⟨k', ⟨r0', r1'⟩, l'⟩, m1', m3'⟩ := id hg
  refine k_Fr_put1 hO ?_
  rw [r0, r0']
  refine ⟨k, k', hF.kd m1, (f_put1 hO hF m1 m1' (by omega) w1).mono (fun M3 k3 => ?_)⟩
  obtain ⟨c1, v1⟩ := k3
  have F1 := c1.nf
  have n1' : NL L W (T2 f) (fun x => x = f) False z M M3 := (c1.nl (I := fun x => x = f) (r := False) hI hz).mono hF (fun t ht => Or.inl ht) hf.t2 (fun _ u => u) hI (fun u => u)
  have hf1 := n1'.frl hF hf
  have hg1 := n1'.frl hF hg
  rw [hf1.1.2.1.2, hg1.1.2.1.2]
  have s3 := (c1.num hF m3' (show ¬ (f' + 3 = f + 1) by omega)).2.2.2.1
  refine ⟨c1.ok, hf1.1.1, hg1.1.1, F1.kd m3, (f_put1 c1.ok F1 m3 m3' (by omega) (by omega)).mono (fun M8 k8 => ?_)⟩
  obtain ⟨c2, v2⟩ := k8
  have F2 := c2.nf
  have hz1 : z < mZ M3 ∧ mK M3 z = 9 := ⟨Nat.lt_of_lt_of_le hz.1 n1'.2.2.1.1.1, by rw [n1'.kind hz.1]; exact hz.2⟩
  have hI1 : ∀ x, (fun x => x = f) x → x < mZ M3 ∧ mK M3 x = 11 := fun x u => by rw [u]; exact ⟨hf1.1.2.2, hf1.1.1⟩
  have n2' : NL L W (T2 f) (fun x => x = f) False z M3 M8 := (c2.nl (I := fun x => x = f) (r := False) hI1 hz1).mono F1 (fun t ht => Or.inr ht) hf.t2 (fun _ u => u) hI1 (fun u => u)
  have hf2 := n2'.frl F1 hf1
  have hg2 := n2'.frl F1 hg1
  have n12 := n1'.trans n2'
  have t2 : mI M8 f' 2 = mI M f' 2 := by rw [(n12.frp hF hg.1).2 (fun u => ff u.symm)]
  rw [t2]
  refine ⟨c2.ok, hg2.1.1, hf2.1.1, fun M12 e12 => ?_⟩
  obtain ⟨n3, t3, w3'⟩ := nl_times (T := T2 f) (I := fun x => x = f) (r := False) (z := z) c2.ok F2 hf2 ⟨Nat.lt_of_lt_of_le hz.1 n12.2.2.1.1.1, by rw [n12.kind hz.1]; exact hz.2⟩ (hO _ _).1 e12 hf.t2 rfl (fun x u => by rw [u]; exact ⟨hf2.1.2.2, hf2.1.1⟩)
  exact ⟨n12.trans n3, by rw [w3' _ m1, c2.v F1 m1 (by omega), v1], by rw [w3' _ m3, v2, c1.v hF m3' (by omega)], t3⟩
end NAT
end
