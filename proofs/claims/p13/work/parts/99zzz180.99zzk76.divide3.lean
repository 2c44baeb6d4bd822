/-! The family's division, as a whole. -/
section NAO
variable {G : mG} {d a b c q e Y Cy s n m X Cx w : Nat} {M M' M1 M2 M3 : mM} {v : Int} {L : List Nat} {W : Nat → Nat} {T T' : Nat → Prop}
theorem hm_dv {sc p t : Int} {Q Q' : mM → Prop} (h : h_Na_divide_134 G d a q e sc p t M Q) (hq : ∀ M', Q M' → Q' M') : h_Na_divide_134 G d a q e sc p t M Q' := by
  unfold h_Na_divide_134 at h ⊢
  exact mWm.mono h (fun r M' k => ⟨k.1, hq M' k.2⟩)
/-- a limb above the highest is cleared -/
theorem NF.wz (hF : NF L W M) (hO : mOk M) (ha : a ∈ L) (hc : sz M a < cp M a) (u : M' = mUI M (mR M a 0) (sz M a) 0) : NC L W (fun x => x = a) M M' ∧ mR M' a 0 = mR M a 0 ∧ nv M' a = nv M a ∧ sz M' a = sz M a ∧ cp M' a = cp M a ∧ mI M' (mR M a 0) (sz M a) = 0 := by
  have F : FI (fun x => x = mR M a 0) M M' := by rw [u]; exact FI.ui rfl
  have t := hF.nt ha
  have o : mOk M' := by rw [u]; exact mOk_UI hO ⟨by decide, by decide⟩
  have na := hF.na ha ha
  have ii : ∀ j, j < sz M a → mI M' (mR M a 0) j = mI M (mR M a 0) j := fun j hj => by rw [mI_ui _ j u, if_neg (fun y => by omega)]
  have t' : Nt M' a (mR M a 0) (cp M a) (sz M a) := ⟨t.1.fi F, by rw [F.2.2.2.2.2.2 a na]; exact t.2.1, t.2.2.1, fun j hj => by rw [ii j hj]; exact t.2.2.2.1 j hj, fun y => by rw [ii _ (by omega)]; exact t.2.2.2.2 y⟩
  refine ⟨hF.chg (fun t ht => by rw [ht]; exact ha) (F.mono (fun x y => Or.inr ⟨a, rfl, y⟩)) o (fun t ht => by rw [ht]; exact ⟨_, t'⟩), by rw [F.2.2.1], ?_, t'.sz, t'.cp, by rw [mI_ui _ _ u, if_pos ⟨rfl, rfl⟩]⟩
  rw [t'.nv]
  exact dn_cg _ ii
/-- from the loop on -/
theorem f_dvLoop {sc : Int} {P : Nat} (hsc : 1 ≤ sc ∧ sc < 1073741824) (hO : mOk M) (hF : NF L W M) (ha : a ∈ L) (hq : q ∈ L) (he : e ∈ L) (aq : a ≠ q) (ae : a ≠ e) (qe : q ≠ e) (hm : sz M a < cp M a) (z : mI M (mR M a 0) (sz M a) = 0) (hn : sz M e = n + 1) (n1 : 1 ≤ n) (eP : P + (n + 1) = sz M a + 1) (P0 : 0 < P) (hP : P ≤ cp M q) (top : 536870912 * 2 ^ (30 * n) ≤ nv M e) : h_Na_divide_134 G (d + 1) a q e sc P ((P : Int) - 1) M (fun M' => NC L W (fun x => x = a ∨ x = q) M M' ∧ ∃ R x, nv M a = nv M e * nv M' q + R ∧ (0 ≤ R ∧ R < nv M e) ∧ R = sc * nv M' a + x ∧ (0 ≤ x ∧ x < sc)) := by
  have ta := hF.nt ha
  have tq := hF.nt hq
  have te := hF.nt he
  rw [hn] at te
  have ev : nv M e = dn (mI M (mR M e 0)) (n + 1) := te.nv
  have hL : lim M (mR M a 0) (sz M a + 1) := fun j hj => by
    by_cases u : j < sz M a
    · exact ta.2.2.2.1 j u
    · rw [show j = sz M a by omega, z]; exact ⟨by decide, by decide⟩
  have V1 : 2 ^ (30 * n) ≤ nv M e := by have := p30p n; omega
  refine hm_dv (s_dv134 (P := P) (n := n + 1) (V := nv M e) (A := nv M a) (sc := sc) ⟨by omega, hsc.2⟩ ta.1 ta.2.1 (by omega) tq.1 hP eP (by omega) P0 te aq (hF.ne ha hq aq) ⟨hF.na he ha, hF.na he hq⟩ ⟨hF.ne he ha (fun u => ae u.symm), hF.ne he hq (fun u => qe u.symm)⟩ (show 1073741824 ≤ 2 * mI M (mR M e 0) n from dv_top te.2.2.2.1 (by rw [← ev]; exact top)) ev P M (Nat.le_refl _) hO FI.refl hL (fun j h1 h2 => absurd h2 (by omega)) (fun j h1 h2 => absurd h2 (by omega)) (dv_win hL z eP V1) ?_) (fun M' k => ?_)
  · rw [qf_top, Int.mul_zero, Int.add_zero, dn_s, z, Int.zero_mul, Int.add_zero]
    rfl
  · obtain ⟨o, F, sq, sa, R, x, Tq, Ta, h1, h2, h3, h4⟩ := k
    rw [← Tq.nv] at h1
    rw [← Ta.nv] at h3
    refine ⟨hF.chg (fun t ht => ht.elim (fun u => by rw [u]; exact ha) (fun u => by rw [u]; exact hq)) (F.mono (fun y u => ?_)) o (fun t ht => ?_), R, x, h1, h2, h3, h4⟩
    · rcases u with (u | u) | (u | u)
      · exact Or.inl (Or.inl u)
      · exact Or.inr ⟨a, Or.inl rfl, u⟩
      · exact Or.inl (Or.inr u)
      · exact Or.inr ⟨q, Or.inr rfl, u⟩
    · rcases ht with u | u
      · rw [u]; exact ⟨_, Ta⟩
      · rw [u]; exact ⟨_, Tq⟩
/-- from the first multiplication on -/
theorem f_dvLong {k : Nat} (hk : 2 ≤ k ∧ k ≤ 31) (hO : mOk M) (hF : NF L W M) (ha : a ∈ L) (hb : b ∈ L) (hq : q ∈ L) (he : e ∈ L) (ab : a ≠ b) (aq : a ≠ q) (ae : a ≠ e) (be : b ≠ e) (bq : b ≠ q) (qe : q ≠ e) (hn : sz M b = n + 1) (n1 : 1 ≤ n) (sba : sz M b ≤ sz M a) (wa : sz M a + 2 ≤ W a) (wq : sz M a + 1 ≤ W q) (we : sz M b + 1 ≤ W e) (q1 : 2 ^ (31 - k) ≤ mI M (mR M b 0) n) (q2 : mI M (mR M b 0) n < 2 ^ (32 - k)) : mK M e = 10 ∧ Cv G y_Na_put1 (d + 2) [vr e, vr b] M (fun M36 => mOk M36 ∧ (mK M36 e = 10 ∧ Cv G y_Na_multiply (d + 2) [vr e, vi (2 ^ (k - 2))] M36 (fun M40 => mOk M40 ∧ (mK M40 a = 10 ∧ Cv G y_Na_multiply (d + 2) [vr a, vi (2 ^ (k - 2))] M40 (fun M44 => mOk M44 ∧ (mK M44 a = 10 ∧ Cv G y_Na_reserve (d + 2) [vr a, vi ((mI M44 a 1) + 1)] M44 (fun M48 => mOk M48 ∧ (mK M48 a = 10 ∧ mK M48 (mR M48 a 0) = 30 ∧ ((0 : Int) ≤ mI M48 a 1 ∧ mI M48 a 1 < (mN M48 (mR M48 a 0) : Int)) ∧ ∀ M54, M54 = mUI M48 (mR M48 a 0) (Int.toNat (mI M48 a 1)) 0 → mK M54 e = 10 ∧ mK M54 q = 10 ∧ Cv G y_Na_reserve (d + 2) [vr q, vi (((mI M54 a 1) - (mI M54 e 1)) + 1)] M54 (fun M58 => mOk M58 ∧ (h_Na_divide_134 G (d + 2) a q e (2 ^ (k - 2)) (((mI M54 a 1) - (mI M54 e 1)) + 1) ((((mI M54 a 1) - (mI M54 e 1)) + 1) - 1) M58 (fun M' => NC L W (fun x => x = a ∨ x = q ∨ x = e) M M' ∧ nv M a = nv M b * nv M' q + nv M' a ∧ nv M' a < nv M b))))))))))) := by
  have hTL : ∀ t, (t = a ∨ t = q ∨ t = e) → t ∈ L := fun t u => by
    rcases u with u | u | u
    · rw [u]; exact ha
    · rw [u]; exact hq
    · rw [u]; exact he
  have ea : e ≠ a := fun u => ae u.symm
  have qa : q ≠ a := fun u => aq u.symm
  have eq : e ≠ q := fun u => qe u.symm
  obtain ⟨s1, s2⟩ := sc_bd hk
  have tb := hF.nt hb
  rw [hn] at tb
  have sct := sc_top (t := n) (V := nv M b) (low := dn (mI M (mR M b 0)) n) hk (by rw [tb.nv, dn_s]) ⟨dn_nn (fun j hj => tb.2.2.2.1 j (by omega)), dn_lt (fun j hj => tb.2.2.2.1 j (by omega))⟩ q1 q2
  refine ⟨hF.kd he, (f_put1 hO hF he hb (fun u => be u.symm) (by omega)).mono (fun M36 k36 => ?_)⟩
  obtain ⟨c1, v1⟩ := k36
  have F1 := c1.nf
  have se1 : sz M36 e ≤ sz M b := F1.szv he (by rw [v1]; exact hF.vlt hb)
  refine ⟨c1.ok, F1.kd he, (f_multiply ⟨s1, s2⟩ c1.ok F1 he (by omega)).mono (fun M40 k40 => ?_)⟩
  obtain ⟨c2, v2⟩ := k40
  have F2 := c2.nf
  rw [v1] at v2
  obtain ⟨-, -, -, a14, a15, -⟩ := c1.num hF ha ae
  obtain ⟨-, -, -, a24, a25, -⟩ := c2.num F1 ha ae
  refine ⟨c2.ok, F2.kd ha, (f_multiply ⟨s1, s2⟩ c2.ok F2 ha (by omega)).mono (fun M44 k44 => ?_)⟩
  obtain ⟨c3, v3⟩ := k44
  have F3 := c3.nf
  rw [a25, a15] at v3
  obtain ⟨-, -, -, e34, e35, -⟩ := c3.num F2 he ea
  have ma : sz M44 a ≤ sz M a + 1 := F3.szv ha (by
    rw [v3, p30, Int.mul_comm]
    have h1 := hF.vlt ha
    have h2 := hF.nn0 ha
    have h3 := Int.mul_le_mul_of_nonneg_left (show (2 : Int) ^ (k - 2) ≤ 1073741824 by omega) h2
    omega)
  have mb : sz M a ≤ sz M44 a := hF.szm F3 ha ha (by
    rw [v3]
    have h3 := Int.mul_le_mul_of_nonneg_right s1 (hF.nn0 ha)
    omega)
  have se2 : sz M44 e = n + 1 := by
    rw [e34]
    have u1 := F2.szv (n := n + 1) he (by rw [v2]; exact sct.1)
    have u2 := hF.szm F2 hb he (by
      rw [v2]
      have h3 := Int.mul_le_mul_of_nonneg_right s1 (hF.nn0 hb)
      omega)
    omega
  rw [(F3.nt ha).2.1, show ((sz M44 a : Nat) : Int) + 1 = ((sz M44 a + 1 : Nat) : Int) by omega]
  refine ⟨c3.ok, F3.kd ha, (f_reserve c3.ok F3 ha (by omega)).mono (fun M48 k48 => ?_)⟩
  obtain ⟨c4, v4, z4, w4⟩ := k48
  have F4 := c4.nf
  obtain ⟨-, -, -, e44, e45, -⟩ := c4.num F3 he ea
  rw [(F4.nt ha).2.1, Int.toNat_natCast]
  have cc : mN M48 (mR M48 a 0) = cp M48 a := rfl
  refine ⟨c4.ok, F4.kd ha, F4.ka ha, ⟨by omega, by omega⟩, fun M54 e54 => ?_⟩
  obtain ⟨c5, r5, v5, z5, p5, w5⟩ := F4.wz c4.ok ha (by omega) e54
  have F5 := c5.nf
  obtain ⟨-, -, -, e54', e55, -⟩ := c5.num F4 he ea
  have s54 : sz M54 e = n + 1 := by omega
  obtain ⟨P, eP⟩ : ∃ P, P + (n + 1) = sz M54 a + 1 := ⟨sz M54 a + 1 - (n + 1), by omega⟩
  rw [(F5.nt ha).2.1, (F5.nt he).2.1, s54, show (((sz M54 a : Nat) : Int) - ((n + 1 : Nat) : Int)) + 1 = ((P : Nat) : Int) by omega]
  refine ⟨F5.kd he, F5.kd hq, (f_reserve c5.ok F5 hq (by omega)).mono (fun M58 k58 => ?_)⟩
  obtain ⟨c6, v6, z6, w6⟩ := k58
  have F6 := c6.nf
  obtain ⟨a61, -, a63, a64, a65, a66⟩ := c6.num F5 ha aq
  obtain ⟨-, -, -, e64, e65, -⟩ := c6.num F5 he eq
  have ve : nv M58 e = 2 ^ (k - 2) * nv M b := by rw [e65, e55, e45, e35, v2]
  have va : nv M58 a = 2 ^ (k - 2) * nv M a := by rw [a65, v5, v4, v3]
  refine ⟨c6.ok, hm_dv (f_dvLoop (d := d + 1) (P := P) (n := n) ⟨s1, s2⟩ c6.ok F6 ha hq he aq ae qe (by omega) (by rw [a61, a64, r5, z5, ← r5, a63, r5]; exact w5) (by omega) n1 (by omega) (by omega) w6 (by rw [ve]; exact sct.2)) (fun M' k' => ?_)⟩
  obtain ⟨c7, R, x, h1, h2, h3, h4⟩ := k'
  rw [va, ve] at h1
  rw [ve] at h2
  obtain ⟨r1, r2⟩ := dv_fin (by omega) h1 h2 h3 h4
  have C1 := c1.mono (T' := fun x => x = a ∨ x = q ∨ x = e) (fun _ u => Or.inr (Or.inr u)) hTL hF
  have C2 := c2.mono (T' := fun x => x = a ∨ x = q ∨ x = e) (fun _ u => Or.inr (Or.inr u)) hTL F1
  have C3 := c3.mono (T' := fun x => x = a ∨ x = q ∨ x = e) (fun _ u => Or.inl u) hTL F2
  have C4 := c4.mono (T' := fun x => x = a ∨ x = q ∨ x = e) (fun _ u => Or.inl u) hTL F3
  have C5 := c5.mono (T' := fun x => x = a ∨ x = q ∨ x = e) (fun _ u => Or.inl u) hTL F4
  have C6 := c6.mono (T' := fun x => x = a ∨ x = q ∨ x = e) (fun _ u => Or.inr (Or.inl u)) hTL F5
  have C7 := c7.mono (T' := fun x => x = a ∨ x = q ∨ x = e) (fun _ u => u.elim Or.inl (fun u => Or.inr (Or.inl u))) hTL F6
  exact ⟨(((((C1.trans C2).trans C3).trans C4).trans C5).trans C6).trans C7, r1, r2⟩
/-- quotient and rest -/
theorem f_divide (hO : mOk M) (hF : NF L W M) (ha : a ∈ L) (hb : b ∈ L) (hq : q ∈ L) (he : e ∈ L) (ab : a ≠ b) (aq : a ≠ q) (ae : a ≠ e) (bq : b ≠ q) (be : b ≠ e) (qe : q ≠ e) (hb0 : 0 < nv M b) (wa : sz M a + 2 ≤ W a) (wq : sz M a + 1 ≤ W q) (we : sz M b + 1 ≤ W e) : Cv G y_Na_divide (d + 3) [vr a, vr b, vr q, vr e] M (fun M' => NC L W (fun x => x = a ∨ x = q ∨ x = e) M M' ∧ nv M a = nv M b * nv M' q + nv M' a ∧ nv M' a < nv M b) := by
  have hTL : ∀ t, (t = a ∨ t = q ∨ t = e) → t ∈ L := fun t u => by
    rcases u with u | u | u
    · rw [u]; exact ha
    · rw [u]; exact hq
    · rw [u]; exact he
  have b0 : sz M b ≠ 0 := fun u => by have := (hF.sz0 hb).1 u; omega
  refine k_Na_divide hO ⟨hF.kd hq, (f_put0 ⟨by decide, by decide⟩ hO hF hq).mono (fun M2 k2 => ?_)⟩
  obtain ⟨c1, v1⟩ := k2
  have F1 := c1.nf
  have C1 := c1.mono (T' := fun x => x = a ∨ x = q ∨ x = e) (fun _ u => Or.inr (Or.inl u)) hTL hF
  obtain ⟨-, -, -, a14, a15, -⟩ := c1.num hF ha aq
  obtain ⟨-, -, -, b14, b15, -⟩ := c1.num hF hb bq
  have tb := F1.nt hb
  rw [tb.2.1, (F1.nt ha).2.1]
  refine ⟨c1.ok, F1.kd hb, fun _ => F1.kd ha, fun y => ⟨C1, ?_, ?_⟩, fun y => ⟨fun y1 => ?_, fun y1 => ?_⟩⟩
  · rw [v1, Int.mul_zero, Int.zero_add, a15]
  · rw [a15]
    exact hF.lts ha hb (by omega)
  · obtain ⟨k1, k2⟩ := f_dvOne (G := G) (d := d) c1.ok F1 ha hb hq ab aq bq (by omega) (by omega)
    refine ⟨k1, k2.mono (fun M16 ⟨k3, k4, k5, k6, k7, k8⟩ => ⟨k3, k4, k5, k6, k7, k8.mono (fun x M23 ⟨k9, k10, k11, k12⟩ => ⟨k9, k10, k11, k12.mono (fun M27 ⟨k13, k14, k15, k16⟩ => ⟨k13, C1.trans (k14.mono (fun _ u => u.elim Or.inl (fun u => Or.inr (Or.inl u))) hTL F1), ?_, ?_⟩)⟩)⟩)⟩
    · rw [← a15, ← b15]; exact k15
    · rw [← b15]; exact k16
  · obtain ⟨n, hn⟩ : ∃ n, sz M2 b = n + 1 := ⟨sz M2 b - 1, by omega⟩
    rw [hn] at tb
    have tn := tb.2.2.2.1 n (by omega)
    have t0 : mI M2 (mR M2 b 0) n ≠ 0 := tb.2.2.2.2 (by omega)
    have cc : mN M2 (mR M2 b 0) = cp M2 b := rfl
    have sc := F1.sc hb
    rw [hn, show Int.toNat (((n + 1 : Nat) : Int) - 1) = n by omega]
    refine ⟨F1.ka hb, ⟨by omega, by omega⟩, (s_nlz (by omega) (l30i tn) c1.ok).mono (fun x M32 g => ?_)⟩
    obtain ⟨eM, k, ek, k31, q1, q2⟩ := g
    have kk : 31 - k < 30 := p2l (by rw [show (2 : Int) ^ 30 = 1073741824 by decide]; exact Int.lt_of_le_of_lt q1 tn.2)
    rw [eM, ek, show ((k : Nat) : Int) - 2 = ((k - 2 : Nat) : Int) by omega, j_sh1 (k - 2) (by omega)]
    obtain ⟨k1, k2⟩ := f_dvLong (G := G) (d := d) (k := k) ⟨by omega, by omega⟩ c1.ok F1 ha hb hq he ab aq ae be bq qe hn (by omega) (by omega) (by omega) (by omega) (by omega) q1 q2
    refine ⟨⟨by omega, by omega⟩, c1.ok, k1, k2.mono (fun M36 ⟨k3, k4, k5⟩ => ⟨k3, k4, k5.mono (fun M40 ⟨k6, k7, k8⟩ => ⟨k6, k7, k8.mono (fun M44 ⟨k9, k10, k11⟩ => ⟨k9, k10, k11.mono (fun M48 ⟨k12, k13, k14, k15, k16⟩ => ⟨k12, k13, k14, k15, fun M54 e54 => ?_⟩)⟩)⟩)⟩)⟩
    obtain ⟨k17, k18, k19⟩ := k16 M54 e54
    refine ⟨k17, k18, k19.mono (fun M58 ⟨k20, k21⟩ => ⟨k20, hm_dv k21 (fun M' ⟨k22, k23, k24⟩ => ⟨C1.trans k22, ?_, ?_⟩)⟩)⟩
    · rw [← a15, ← b15]; exact k23
    · rw [← b15]; exact k24
end NAO
