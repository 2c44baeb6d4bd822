section
/-! The solver: move and within. -/
theorem p480e : (2 : Int) ^ 480 = 16777216 ^ 20 := by decide
def Bt (M : mM) (s n : Nat) (x : Nat → Rat) : Prop := Vk M s ∧ GW M s ∧ GB M s ∧ mI M s 1 = n ∧ Wk M s ∧ Xt M s 88 n x ∧ ∀ k, k < n → Smp 21 (x k) ∧ 0 ≤ x k
abbrev bmS (s : Nat) : Nat → Prop := fun y => wS s y ∨ (s + 62 ≤ y ∧ y ≤ s + 66)
theorem Bt.out {M M' : mM} {s n : Nat} {x : Nat → Rat} (h : Bt M s n x) (f : FI (bmS s) M M') (hW : Wk M' s) : Bt M' s n x := by
  obtain ⟨V, g, c, e, -, X, b⟩ := h
  have G : sameG M M' s := sameG.of f (by omega) (fun y _ _ => by omega)
  exact ⟨V.fi f, G.gw g, G.gb c, by rw [G.1]; exact e, hW, X.out f (fun y q => by omega), b⟩
/-- the best so far -/
def bsI (M : mM) (s : Nat) (M2 : mM) : Prop := mOk M2 ∧ FI (bmS s) M M2 ∧ Wk M2 s ∧ Fq M2 (s + 62) 900 ∧ Fc M2 (s + 62) ∧ 0 ≤ fv M2 (s + 62) ∧ Smp 185 (fv M2 (s + 62))
abbrev nxS (s k : Nat) : Nat → Prop := fun y => bmS s y ∨ fS (s + 83 + 25 * k) y
/-- a fraction that may stay -/
def okF (M : mM) (f : Nat) : Prop := Fq M f 56 ∧ Fc M f ∧ Smp 21 (fv M f) ∧ 0 ≤ fv M f
def mvQ (M : mM) (s k : Nat) (r : Int) (M' : mM) : Prop := mOk M' ∧ FI (nxS s k) M M' ∧ Wk M' s ∧ ((r = 0 ∧ FI (bmS s) M M') ∨ (r = 1 ∧ okF M' (s + 83 + 25 * k)))
section MV
variable {G : mG} {d s n : Nat} {M : mM} {x : Nat → Rat}
theorem bs_fit {M2 : mM} {y z : Int} (h : bsI M s M2) (h1 : wv M2 (s + 62 + 1) < 2 ^ y.toNat) (h2 : wv M2 (s + 62 + 3) < 2 ^ z.toNat) (hy : y ≤ 480) (hz : z ≤ 480) : mI M2 (s + 62 + 1) 1 ≤ 56 ∧ mI M2 (s + 62 + 3) 1 ≤ 56 ∧ Smp 21 (fv M2 (s + 62)) := by
  obtain ⟨-, -, -, F, C, p, q⟩ := h
  have a1 : (2 : Int) ^ y.toNat ≤ 2 ^ 480 := two_pow_le (by omega)
  have a2 : (2 : Int) ^ z.toNat ≤ 2 ^ 480 := two_pow_le (by omega)
  rw [p480e] at a1 a2
  have b1 := F.2.1.size (k := 20) (Int.lt_of_lt_of_le h1 a1)
  have b2 := F.2.2.1.size (k := 20) (Int.lt_of_lt_of_le h2 a2)
  refine ⟨by omega, by omega, sd M2 (s + 62), sn M2 (s + 62), F.2.2.2.2, ?_, fv_sd F, (smp_b q).1, (smp_b q).2⟩
  exact Int.lt_of_lt_of_le (Int.lt_of_lt_of_le h2 a2) (pow_mono (by omega))
theorem s_MS_move {k : Nat} (hO : mOk M) (hB : Bt M s n x) (hk : k < n) (hR : Rm M s 83) : Ci G y_MS_move (d + 6) [vr s, vi k] M (mvQ M s k) := by
  have hB0 := hB
  obtain ⟨hV, hG, hC, hn, hW, hX, h01⟩ := hB
  have h2 := hG.2.1
  have h3 := hG.2.2.1
  have hc := hG.cmd (i := k) (by omega)
  have hm0 : 0 ≤ mny M s k ∧ mny M s k ≤ 4200 := by unfold mny; omega
  have h01' : ∀ t, t < n → 0 ≤ x t ∧ x t ≤ 1 := fun t ht => ⟨(h01 t ht).2, (smp_b (h01 t ht).1).1⟩
  have hxs : ∀ t, t < n → Smp 21 (x t) := fun t ht => (h01 t ht).1
  refine k_MS_move hO ⟨by omega, by omega⟩ ?_
  rw [hV.r4, hV.n22, hV.r30]
  refine ⟨hV.k0, hV.k22, by omega, fun v hv => ⟨hW.2.2.2.2.2.1.1, (s_MF_set ⟨by split at hv <;> omega, by split at hv <;> omega⟩ (by split at hv <;> omega) ⟨by omega, by omega⟩ (by omega) hO hW.2.2.2.2.2 (by omega)).mono (fun M1 h1 => ?_)⟩⟩
  obtain ⟨o1, f1, F1, y1, y2, y3⟩ := h1
  have hv01 : v = 0 ∨ v = 1 := by split at hv <;> omega
  have C1 := fc_one F1 y2 (fun q => y3 (by omega))
  have e1 : fv M1 (s + 62) = 0 ∨ fv M1 (s + 62) = 1 := by
    rw [fv_set y1 y2]
    have z0 : ((0 : Int) : Rat) = 0 := rfl
    have z1 : ((1 : Int) : Rat) = 1 := rfl
    rcases hv01 with z | z
    · left; rw [z, z0]; grind
    · right; rw [z, z1]; grind
  refine ⟨o1, ?_⟩
  suffices H : ∀ (c i : Nat) (M2 : mM), i + c = (mny M s k).toNat → bsI M s M2 → h_MS_move_25 G (d + 5) s k i M2 (mvQ M s k) by
    refine H (mny M s k).toNat 0 M1 (by omega) ⟨o1, f1.mono (fun y q => by have : s + 62 ≤ y ∧ y ≤ s + 62 + 4 := q; omega), hW.put f1 F1.ft (by omega), F1, C1, ?_, ?_⟩
    · rcases e1 with z | z <;> rw [z] <;> decide
    · rcases e1 with z | z <;> rw [z]
      · exact ⟨1, 0, by omega, by decide, by grind, by grind, by grind⟩
      · exact ⟨1, 1, by omega, by decide, by grind, by grind, by grind⟩
  clear e1 C1 y3 y2 y1 F1 f1 o1 M1
  intro c
  induction c with
  | zero =>
    intro i M2 hi h
    obtain ⟨o2, f2, W2, F2, C2, p2, q2⟩ := id h
    obtain ⟨V2, G2, -, n2, -⟩ := hB0.out f2 W2
    have sg : sameG M M2 s := sameG.of f2 (by omega) (fun y _ _ => by omega)
    have h141 : h_MS_move_141 G (d + 5) s k 0 M2 (mvQ M s k) :=
      k_MS_move_141 o2 ⟨by omega, by omega⟩ ⟨by omega, by omega⟩ ⟨fun _ => ⟨Or.inl rfl, o2, f2.mono (fun y q => Or.inl q), W2, Or.inl ⟨rfl, f2⟩⟩, fun q => absurd rfl q⟩
    refine k_MS_move_25 o2 ⟨by omega, by omega⟩ ⟨by omega, by omega⟩ ⟨V2.k0, (s_MS_many o2 V2 G2 (by omega)).mono (fun y M3 h3' => ?_)⟩
    obtain ⟨e3, hy⟩ := h3'
    subst e3
    rw [sg.hm] at hy
    rw [V2.r30, F2.1.2.1]
    refine ⟨⟨by omega, by omega⟩, o2, fun _ => ⟨V2.k0, F2.1.1, F2.2.1.1.1, (s_MW_places o2 F2.2.1).mono (fun u M4 h4 => ?_)⟩, fun q => by omega⟩
    obtain ⟨e4, u1, u2, u3, -⟩ := h4
    subst e4
    rw [V2.r30, F2.1.2.2]
    refine ⟨⟨by omega, by omega⟩, o2, fun _ => h141, fun hu => ⟨V2.k0, F2.1.1, F2.2.2.1.1.1, (s_MW_places o2 F2.2.2.1).mono (fun z M5 h5 => ?_)⟩⟩
    obtain ⟨e5, z1, z2, z3, -⟩ := h5
    subst e5
    refine ⟨⟨by omega, by omega⟩, o2, fun _ => h141, fun hz => ?_⟩
    have hfit := bs_fit h u3 z3 (by omega) (by omega)
    have rk : Ft M5 (s + 83 + 25 * k) 56 := (hR k (by omega)).out f2 (fun y q => by omega)
    refine k_MS_move_141 o2 ⟨by omega, by omega⟩ ⟨by omega, by omega⟩ ⟨fun q => by omega, fun _ => ?_⟩
    rw [V2.r13, V2.n31, V2.r30, Int.toNat_natCast, V2.f31 k (by omega)]
    refine ⟨V2.k0, V2.k31, by omega, rk.1.1, (s_MF_copy o2 rk F2 (by omega) hfit.1 hfit.2.1).mono (fun M6 h6 => ?_)⟩
    obtain ⟨o6, f6, F6, w4, w5, w6⟩ := h6
    have C6 := fc_copy C2 w4 w5 w6
    exact ⟨o6, Or.inr rfl, o6, (f2.mono (fun y q => Or.inl q)).trans (f6.mono (fun y q => Or.inr q)), W2.far f6 (fun y q => by have : s + 83 + 25 * k ≤ y ∧ y ≤ s + 83 + 25 * k + 4 := q; omega), Or.inr ⟨rfl, F6, C6.1, by rw [C6.2]; exact hfit.2.2, by rw [C6.2]; exact p2⟩⟩
  | succ c ih =>
    intro i M2 hi h
    obtain ⟨o2, f2, W2, F2, C2, p2, q2⟩ := id h
    have B2 := hB0.out f2 W2
    obtain ⟨V2, G2, C2', n2, -, X2, -⟩ := id B2
    have sg : sameG M M2 s := sameG.of f2 (by omega) (fun y _ _ => by omega)
    have him : (i : Int) < mny M2 s k := by rw [sg.hm]; omega
    refine k_MS_move_25 o2 ⟨by omega, by omega⟩ ⟨by omega, by omega⟩ ⟨V2.k0, (s_MS_many o2 V2 G2 (by omega)).mono (fun y M3 h3' => ?_)⟩
    obtain ⟨e3, hy⟩ := h3'
    subst e3
    rw [sg.hm] at hy
    rw [V2.r21]
    refine ⟨⟨by omega, by omega⟩, o2, fun q => by omega, fun _ => ⟨V2.k0, (s_worthG (d := d) (n := n) (p := 21) (by omega) hxs (Or.inl ⟨rfl, rfl, rfl⟩) o2 V2 G2 C2' n2 (by omega) him W2 X2 h01').mono (fun M4 h4 => ?_)⟩⟩
    obtain ⟨o4, f4, W4, F4, C4, v4, s4⟩ := h4
    have V4 := V2.fi f4
    have hcx := cx_lt G2 (k := k) (i := i) (by omega) him
    have hw0 : 0 ≤ cw M3 s (cx M3 s k i) x := by
      have a := cw_le C2' hcx (f := fun _ => 0) (g := x) (fun b hb => (h01' _ (by have := tg_lt G2 hcx hb; omega)).1)
      rw [cw_const C2' hcx] at a
      exact a
    have b4 := F2.out f4 (fun y q => by omega)
    have c4 := C2.out F2 f4 (fun y q => by omega)
    have e4 := fv_out F2 f4 (fun y q => by omega)
    have sz1 := smp_size F4 C4 (k := 185) (by rw [v4]; exact s4)
    have sz2 := smp_size b4.1 c4 (k := 185) (by rw [e4]; exact q2)
    rw [V4.r0, V4.r28, V4.r30]
    refine ⟨o4, V4.k0, W4.1.1.1, (s_MU_compare (d := d + 3) o4 W4.1 F4 b4.1 (by unfold suO; omega) (by unfold suO; omega) (by omega) (by omega)).mono (fun u M5 h5 => ?_)⟩
    obtain ⟨o5, f5, Z5, hcv⟩ := h5
    have hc3 : u = -1 ∨ u = 0 ∨ u = 1 := by split at hcv <;> (try split at hcv) <;> omega
    have V5 := V4.fi f5
    have W5 : Wk M5 s := W4.out f5 Z5 (fun y q => by omega)
    have b5 := b4.1.out f5 (fun y q => by omega)
    have c5 := c4.out b4.1 f5 (fun y q => by omega)
    have e5 := fv_out b4.1 f5 (fun y q => by omega)
    have F5 := F4.out f5 (fun y q => by omega)
    have C5 := C4.out F4 f5 (fun y q => by omega)
    have v5 := fv_out F4 f5 (fun y q => by omega)
    have f25 : FI (bmS s) M M5 := (f2.trans (f4.mono (fun y q => Or.inl q))).trans (f5.mono (fun y q => by omega))
    have hI5 : bsI M s M5 := ⟨o5, f25, W5, b5.1, c5, by rw [e5, e4]; exact p2, by rw [e5, e4]; exact q2⟩
    have hnext : ∀ M6, bsI M s M6 → h_MS_move_98 G (d + 5) s k i M6 (mvQ M s k) := fun M6 h6 =>
      k_MS_move_98 h6.1 ⟨by omega, by omega⟩ ⟨by omega, by omega⟩ (ih (i + 1) M6 (by omega) h6)
    have sz3 := smp_size F5.1 C5 (k := 185) (by rw [v5, v4]; exact s4)
    have hcopy : Cv G y_MF_copy (d + 5) [vr (s + 62), vr (s + 52)] M5 (fun M6 => mOk M6 ∧ h_MS_move_98 G (d + 5) s k i M6 (mvQ M s k)) := by
      refine (s_MF_copy o5 W5.2.2.2.2.2 F5.1 (by omega) (by omega) (by omega)).mono (fun M6 h6 => ?_)
      obtain ⟨o6, f6, F6, w4, w5, w6⟩ := h6
      have C6 := fc_copy C5 w4 w5 w6
      exact ⟨o6, hnext M6 ⟨o6, f25.trans (f6.mono (fun y q => by have : s + 62 ≤ y ∧ y ≤ s + 62 + 4 := q; omega)), W5.put f6 F6.ft (by omega), F6, C6.1, by rw [C6.2, v5, v4]; exact hw0, by rw [C6.2, v5, v4]; exact s4⟩⟩
    rw [V5.r30, V5.r28, V5.r4, V5.n22]
    exact ⟨⟨by omega, by omega⟩, o5, fun _ => ⟨V5.k0, b5.1.1.1, hcopy⟩, fun _ => ⟨V5.k0, V5.k22, by omega, fun _ => ⟨fun _ => hnext M5 hI5, fun _ => ⟨b5.1.1.1, hcopy⟩⟩, fun _ => ⟨fun _ => hnext M5 hI5, fun _ => ⟨b5.1.1.1, hcopy⟩⟩⟩⟩
end MV
end
section
/-! The solver: within. -/
def Ok (M : mM) (s e n : Nat) : Prop := ∀ k, k < n → okF M (s + e + 25 * k)
abbrev inF (s : Nat) : Nat → Prop := fun y => bmS s y ∨ y = s + 30 ∨ eS s 73 y ∨ eS s 83 y ∨ eS s 88 y
theorem okF.out {S : Nat → Prop} {M M' : mM} {f : Nat} (h : okF M f) (k : FI S M M') (hs : ∀ y, S y → y < f ∨ f + 4 < y) : okF M' f := by
  obtain ⟨h1, h2, h3, h4⟩ := h
  have e := fv_out h1 k hs
  exact ⟨(h1.out k hs).1, h2.out h1 k hs, by rw [e]; exact h3, by rw [e]; exact h4⟩
theorem Ok.out {S : Nat → Prop} {M M' : mM} {s e n : Nat} (h : Ok M s e n) (k : FI S M M') (hs : ∀ i y, i < n → S y → y < s + e + 25 * i ∨ s + e + 25 * i + 4 < y) : Ok M' s e n :=
  fun i hi => (h i hi).out k (fun y q => hs i y hi q)
theorem Ok.xt {M : mM} {s e n : Nat} (h : Ok M s e n) : Xt M s e n (fun k => fv M (s + e + 25 * k)) ∧ ∀ k, k < n → Smp 21 (fv M (s + e + 25 * k)) ∧ 0 ≤ fv M (s + e + 25 * k) :=
  ⟨fun k hk => ⟨(h k hk).1, (h k hk).2.1, rfl⟩, fun k hk => (h k hk).2.2⟩
theorem inF_far {s e i y : Nat} (he : e = 68 ∨ e = 78) (hi : i < 512) (q : inF s y) : y < s + e + 25 * i ∨ s + e + 25 * i + 4 < y := by
  rcases he with z | z <;> subst z <;> omega
theorem inF_vH {s y : Nat} (q : inF s y) : vH s y := by omega
theorem inF_ct {s y : Nat} (q : inF s y) : y < s + 12868 := by omega
theorem inF_lo {s y : Nat} (q : inF s y) : s < y ∧ (y < s + 22 ∨ s + 28 < y) ∧ y ≠ s + 32 ∧ y ≠ s + 33 ∧ y ≠ s + 34 := by omega
/-- copying one of 512 fractions to another place -/
theorem ok_copy {G : mG} {d s k a b : Nat} {M : mM} {Q : mM → Prop} (hO : mOk M) (hR : Rm M s a) (hk : k < 512) (h : okF M (s + b + 25 * k)) (hne : a + 4 < b ∨ b + 4 < a) (hQ : ∀ M', mOk M' → FI (fS (s + a + 25 * k)) M M' → okF M' (s + a + 25 * k) → Rm M' s a → Q M') : Cv G y_MF_copy (d + 1) [vr (s + a + 25 * k), vr (s + b + 25 * k)] M Q := by
  obtain ⟨h1, h2, h3, h4⟩ := h
  refine (s_MF_copy hO (hR k hk) h1 (by omega) h1.2.1.1.2.2.2.2.2.2 h1.2.2.1.1.2.2.2.2.2.2).mono (fun M' h' => ?_)
  obtain ⟨o', f', F', w4, w5, w6⟩ := h'
  have C' := fc_copy h2 w4 w5 w6
  exact hQ M' o' f' ⟨F', C'.1, by rw [C'.2]; exact h3, by rw [C'.2]; exact h4⟩ (hR.put hk f' F'.ft)
def wiI (M : mM) (s n : Nat) (M2 : mM) : Prop := mOk M2 ∧ FI (inF s) M M2 ∧ Wk M2 s ∧ Rm M2 s 73 ∧ Rm M2 s 83 ∧ Rm M2 s 88 ∧ Ok M2 s 88 n
def wiQ (M : mM) (s n : Nat) (r : Int) (M' : mM) : Prop := mOk M' ∧ FI (inF s) M M' ∧ Wk M' s ∧ Rm M' s 73 ∧ Rm M' s 83 ∧ Rm M' s 88 ∧ (∀ j, j ≠ 1 → mI M' (s + 30) j = mI M (s + 30) j) ∧ ((r = 0 ∧ mI M' (s + 30) 1 = 1 ∧ Ok M' s 73 n) ∨ (r = 6 ∧ mI M' (s + 30) 1 = 0))
section WI
variable {G : mG} {d s n : Nat} {M : mM} {l1 : Int}
/-- where has[1] is off -/
abbrev h30 (M : mM) (s : Nat) (M2 : mM) : Prop := (∀ j, j ≠ 1 → mI M2 (s + 30) j = mI M (s + 30) j) ∧ mI M2 (s + 30) 1 = 0
theorem s_wi121 (hV : Vk M s) (hn : mI M s 1 = n) (hn5 : n ≤ 512) : ∀ (c k : Nat) (M2 : mM), k + c = n → wiI M s n M2 → h30 M s M2 → Ok M2 s 73 k → h_MS_within_121 G (d + 6) s k M2 (wiQ M s n) := by
  intro c
  induction c with
  | zero =>
    intro k M2 hk h hh hok
    have ek : k = n := by omega
    subst ek
    obtain ⟨o2, f2, W2, R7, R8, R9, K2⟩ := h
    have V2 := hV.fi f2
    have fe := f2.2.2.2.2.2.2
    refine k_MS_within_121 o2 ⟨by omega, by omega⟩ ?_
    rw [fe s (fun q => by have := inF_lo q; omega), hn, V2.r12, V2.n30]
    refine ⟨V2.k0, fun _ => ⟨V2.k30, by omega, fun M3 e3 => ?_⟩, fun q => by omega⟩
    have f3 : FI (fun y => y = s + 30) M2 M3 := by rw [e3]; exact FI.ui rfl
    have o3 : mOk M3 := by rw [e3]; exact mOk_UI o2 ⟨by omega, by omega⟩
    refine ⟨o3, f2.trans (f3.mono (fun y q => Or.inr (Or.inl q))), W2.far f3 (fun y q => by omega), R7.out f3 (fun y q => by omega), R8.out f3 (fun y q => by omega), R9.out f3 (fun y q => by omega), fun j hj => ?_, Or.inl ⟨rfl, ?_, hok.out f3 (fun i y hi q => by omega)⟩⟩
    · rw [e3, mI_UI, if_neg (fun w => hj w.2)]
      exact hh.1 j hj
    · rw [e3, mI_UI, if_pos ⟨rfl, rfl⟩]
  | succ c ih =>
    intro k M2 hk h hh hok
    obtain ⟨o2, f2, W2, R7, R8, R9, K2⟩ := h
    have V2 := hV.fi f2
    have fe := f2.2.2.2.2.2.2
    have ea : mR M2 (s + 29) (3 * (k : Int) + 1).toNat = s + 73 + 25 * k := by
      rw [show (3 * (k : Int) + 1).toNat = 3 * k + 1 by omega, V2.f29 k 1 (by omega) (by omega)]
      omega
    refine k_MS_within_121 o2 ⟨by omega, by omega⟩ ?_
    rw [fe s (fun q => by have := inF_lo q; omega), hn, V2.r11, V2.r21, V2.n29, V2.n38, ea, Int.toNat_natCast, V2.f38 k (by omega)]
    refine ⟨V2.k0, fun q => by omega, fun _ => ⟨V2.k29, by omega, V2.k38, by omega, (R7 k (by omega)).1.1, ok_copy (d := d + 5) o2 R7 (by omega) (K2 k (by omega)) (by omega) (fun M3 o3 f3 k3 r3 => ?_)⟩⟩
    have f3' : ∀ y, fS (s + 73 + 25 * k) y → s + 73 + 25 * k ≤ y ∧ y ≤ s + 73 + 25 * k + 4 := fun y q => q
    refine ⟨o3, ih (k + 1) M3 (by omega) ⟨o3, f2.trans (f3.mono (fun y q => by have := f3' y q; omega)), W2.far f3 (fun y q => by have := f3' y q; omega), r3, R8.out2 f3 (fun i y hi q => by have := f3' y q; omega), R9.out2 f3 (fun i y hi q => by have := f3' y q; omega), K2.out f3 (fun i y hi q => by have := f3' y q; omega)⟩ ?_ (fun j hj => ?_)⟩
    · unfold h30
      rw [f3.2.2.2.2.2.2 (s + 30) (fun q => by have := f3' _ q; omega)]
      exact hh
    · by_cases z : j = k
      · rw [z]; exact k3
      · exact (hok j (by omega)).out f3 (fun y q => by have := f3' y q; omega)
theorem s_wi84 {r : Nat} (hV : Vk M s) (hn : mI M s 1 = n) (hn5 : n ≤ 512) (h0 : 0 ≤ l1) (hl : l1 ≤ 32) (hr : r ≤ 32) (hQ : ∀ M', wiI M s n M' → h30 M s M' → h_MS_within_50 G (d + 6) s l1 ((r : Int) + 1) M' (wiQ M s n)) : ∀ (c k : Nat) (M2 : mM), k + c = n → wiI M s n M2 → h30 M s M2 → Ok M2 s 83 n → h_MS_within_84 G (d + 6) s l1 r k M2 (wiQ M s n) := by
  intro c
  induction c with
  | zero =>
    intro k M2 hk h hh hok
    obtain ⟨o2, f2, -⟩ := id h
    have V2 := hV.fi f2
    refine k_MS_within_84 o2 ⟨by omega, by omega⟩ ⟨by omega, by omega⟩ ⟨by omega, by omega⟩ ?_
    rw [f2.2.2.2.2.2.2 s (fun q => by have := inF_lo q; omega), hn]
    exact ⟨V2.k0, fun _ => hQ M2 h hh, fun q => by omega⟩
  | succ c ih =>
    intro k M2 hk h hh hok
    obtain ⟨o2, f2, W2, R7, R8, R9, K2⟩ := h
    have V2 := hV.fi f2
    have fe := f2.2.2.2.2.2.2
    refine k_MS_within_84 o2 ⟨by omega, by omega⟩ ⟨by omega, by omega⟩ ⟨by omega, by omega⟩ ?_
    rw [fe s (fun q => by have := inF_lo q; omega), hn, V2.r13, V2.r21, V2.n31, V2.n38, Int.toNat_natCast, V2.f38 k (by omega), V2.f31 k (by omega)]
    refine ⟨V2.k0, fun q => by omega, fun _ => ⟨V2.k38, by omega, V2.k31, by omega, (R9 k (by omega)).1.1, ok_copy (d := d + 5) o2 R9 (by omega) (hok k (by omega)) (by omega) (fun M3 o3 f3 k3 r3 => ?_)⟩⟩
    have f3' : ∀ y, fS (s + 88 + 25 * k) y → s + 88 + 25 * k ≤ y ∧ y ≤ s + 88 + 25 * k + 4 := fun y q => q
    refine ⟨o3, ih (k + 1) M3 (by omega) ⟨o3, f2.trans (f3.mono (fun y q => by have := f3' y q; omega)), W2.far f3 (fun y q => by have := f3' y q; omega), R7.out2 f3 (fun i y hi q => by have := f3' y q; omega), R8.out2 f3 (fun i y hi q => by have := f3' y q; omega), r3, fun j hj => ?_⟩ ?_ (hok.out f3 (fun i y hi q => by have := f3' y q; omega))⟩
    · by_cases z : j = k
      · rw [z]; exact k3
      · exact (K2 j hj).out f3 (fun y q => by have := f3' y q; omega)
    · unfold h30
      rw [f3.2.2.2.2.2.2 (s + 30) (fun q => by have := f3' _ q; omega)]
      exact hh
theorem s_wi50 (hV : Vk M s) (hG : GW M s) (hC : GB M s) (hn : mI M s 1 = n) (hn5 : n ≤ 512) (h0 : 0 ≤ l1) (hl : l1 ≤ 32) : ∀ (t r : Nat) (M2 : mM), (r : Int) + t = l1 → wiI M s n M2 → h30 M s M2 → h_MS_within_50 G (d + 6) s l1 r M2 (wiQ M s n) := by
  intro t
  induction t with
  | zero =>
    intro r M2 ht h hh
    exact k_MS_within_50 h.1 ⟨by omega, by omega⟩ ⟨by omega, by omega⟩ ⟨fun _ => s_wi121 hV hn hn5 n 0 M2 (by omega) h hh (fun j hj => by omega), fun q => by omega⟩
  | succ t ih =>
    intro r M2 ht h hh
    refine k_MS_within_50 h.1 ⟨by omega, by omega⟩ ⟨by omega, by omega⟩ ⟨fun q => by omega, fun _ => ?_⟩
    suffices H : ∀ (c k : Nat) (M3 : mM), k + c = n → wiI M s n M3 → h30 M s M3 → Ok M3 s 83 k → h_MS_within_57 G (d + 6) s l1 r k M3 (wiQ M s n) from H n 0 M2 (by omega) h hh (fun j hj => by omega)
    clear h hh M2
    intro c
    induction c with
    | zero =>
      intro k M3 hk h hh hok
      have ek : k = n := by omega
      subst ek
      obtain ⟨o2, f2, -⟩ := id h
      have V2 := hV.fi f2
      refine k_MS_within_57 o2 ⟨by omega, by omega⟩ ⟨by omega, by omega⟩ ⟨by omega, by omega⟩ ?_
      rw [f2.2.2.2.2.2.2 s (fun q => by have := inF_lo q; omega), hn]
      exact ⟨V2.k0, fun _ => s_wi84 hV hn hn5 h0 hl (by omega) (fun M' h' hh' => ih (r + 1) M' (by omega) h' hh') k 0 M3 (by omega) h hh hok, fun q => by omega⟩
    | succ c ihc =>
      intro k M3 hk h hh hok
      obtain ⟨o3, f3, W3, R7, R8, R9, K3⟩ := id h
      have V3 := hV.fi f3
      have sg : sameG M M3 s := sameG.of f3 (fun q => by have := inF_lo q; omega) (fun y a b q => by have := inF_lo q; omega)
      have x3 := K3.xt
      refine k_MS_within_57 o3 ⟨by omega, by omega⟩ ⟨by omega, by omega⟩ ⟨by omega, by omega⟩ ?_
      rw [sg.1, hn]
      refine ⟨V3.k0, fun q => by omega, fun _ => (s_MS_move (d := d) o3 ⟨V3, sg.gw hG, sg.gb hC, by rw [sg.1]; exact hn, W3, x3.1, x3.2⟩ (by omega) R8).mono (fun y M4 h4 => ?_)⟩
      obtain ⟨o4, f4, W4, h4⟩ := h4
      have f4' : ∀ y, nxS s k y → bmS s y ∨ (s + 83 + 25 * k ≤ y ∧ y ≤ s + 83 + 25 * k + 4) := fun y q => q
      have e30 : mI M4 (s + 30) = mI M3 (s + 30) := f4.2.2.2.2.2.2 _ (fun q => by have := f4' _ q; omega)
      have hh4 : h30 M s M4 := by unfold h30; rw [e30]; exact hh
      have f04 : FI (inF s) M M4 := f3.trans (f4.mono (fun y q => by have := f4' y q; omega))
      have R74 : Rm M4 s 73 := R7.out2 f4 (fun i y hi q => by have := f4' y q; omega)
      have R94 : Rm M4 s 88 := R9.out2 f4 (fun i y hi q => by have := f4' y q; omega)
      have K4 : Ok M4 s 88 n := K3.out f4 (fun i y hi q => by have := f4' y q; omega)
      rcases h4 with ⟨y0, g4⟩ | ⟨y1, k4⟩
      · subst y0
        have R84 : Rm M4 s 83 := R8.out g4 (fun y q => by omega)
        exact ⟨⟨by omega, by omega⟩, o4, fun _ => ⟨o4, f04, W4, R74, R84, R94, hh4.1, Or.inr ⟨rfl, hh4.2⟩⟩, fun q => absurd rfl q⟩
      · subst y1
        have R84 : Rm M4 s 83 := fun i hi => by
          by_cases z : i = k
          · rw [z]; exact k4.1.ft
          · exact (R8 i hi).out f4 (fun y q => by have := f4' y q; omega)
        refine ⟨⟨by omega, by omega⟩, o4, fun q => by omega, fun _ => ihc (k + 1) M4 (by omega) ⟨o4, f04, W4, R74, R84, R94, K4⟩ hh4 (fun j hj => ?_)⟩
        by_cases z : j = k
        · rw [z]; exact k4
        · exact (hok j (by omega)).out f4 (fun y q => by have := f4' y q; omega)
theorem s_MS_within (h0 : 0 ≤ l1) (hl : l1 ≤ 32) (hO : mOk M) (h : Sv M s n) : Ci G y_MS_within (d + 7) [vr s, vi l1] M (fun r M' => mOk M' ∧ FI (vH s) M M' ∧ Sv M' s n ∧ (r = 0 ∨ r = 6)) := by
  have hn5 := h.n5
  obtain ⟨V, g, c, hn, t, W, T, R, H, hc⟩ := id h
  have hfin : ∀ r M', wiQ M s n r M' → (mOk M' ∧ FI (vH s) M M' ∧ Sv M' s n ∧ (r = 0 ∨ r = 6)) := fun r M' k => by
    obtain ⟨o', f', W', R7, R8, R9, k30, kr⟩ := k
    have sg : sameG M M' s := sameG.of f' (fun q => by have := inF_lo q; omega) (fun y a b q => by have := inF_lo q; omega)
    have fe := f'.2.2.2.2.2.2
    refine ⟨o', f'.mono (fun y q => inF_vH q), ⟨V.fi f', sg.gw g, sg.gb c, by rw [sg.1]; exact hn, t.out sg (fe _ (fun q => by have := inF_lo q; omega)), W', T.out f' (fun y q => inF_ct q), fun e he => ?_, fun w hw => ?_, fun q => ?_⟩, by rcases kr with z | z; exact Or.inl z.1; exact Or.inr z.1⟩
    · rcases he with z | z | z | z | z <;> subst z
      · exact (R 68 (by omega)).out2 f' (fun i y hi q => inF_far (by omega) hi q)
      · exact R7
      · exact (R 78 (by omega)).out2 f' (fun i y hi q => inF_far (by omega) hi q)
      · exact R8
      · exact R9
    · by_cases z : w = 1
      · subst z
        rcases kr with ⟨z1, z2, z3⟩ | ⟨z1, z2⟩
        · have x3 := z3.xt
          exact ⟨Or.inr z2, fun _ => ⟨_, x3.1, x3.2⟩⟩
        · exact ⟨Or.inl z2, fun q => by omega⟩
      · obtain ⟨a1, a2⟩ := H w hw
        unfold Hs
        rw [k30 w z]
        refine ⟨a1, fun q => ?_⟩
        obtain ⟨x, X, v⟩ := a2 q
        exact ⟨x, X.out2 f' (fun i y hi q => inF_far (by omega) (by omega) q), v⟩
    · rw [k30 0 (by omega)] at q
      exact (hc q).out sg (fe _ (fun q => by have := inF_lo q; omega))
  refine Ci.mono (Q := wiQ M s n) ?_ hfin
  refine k_MS_within hO ⟨by omega, by omega⟩ ?_
  rw [V.r12, V.n30]
  refine ⟨V.k0, V.k30, by omega, fun M1 e1 => ?_⟩
  have f1 : FI (fun y => y = s + 30) M M1 := by rw [e1]; exact FI.ui rfl
  have o1 : mOk M1 := by rw [e1]; exact mOk_UI hO ⟨by omega, by omega⟩
  have hh1 : h30 M s M1 := ⟨fun j hj => by rw [e1, mI_UI, if_neg (fun w => hj w.2)], by rw [e1, mI_UI, if_pos ⟨rfl, rfl⟩]⟩
  suffices H : ∀ (c k : Nat) (M2 : mM), k + c = n → mOk M2 → FI (inF s) M M2 → Wk M2 s → Rm M2 s 73 → Rm M2 s 83 → Rm M2 s 88 → h30 M s M2 → Ok M2 s 88 k → h_MS_within_9 G (d + 6) s l1 k M2 (wiQ M s n) from
    H n 0 M1 (by omega) o1 (f1.mono (fun y q => Or.inr (Or.inl q))) (W.far f1 (fun y q => by omega)) ((R 73 (by omega)).out f1 (fun y q => by omega)) ((R 83 (by omega)).out f1 (fun y q => by omega)) ((R 88 (by omega)).out f1 (fun y q => by omega)) hh1 (fun j hj => by omega)
  intro c'
  induction c' with
  | zero =>
    intro k M2 hk o2 f2 W2 R7 R8 R9 hh hok
    have ek : k = n := by omega
    subst ek
    have V2 := V.fi f2
    refine k_MS_within_9 o2 ⟨by omega, by omega⟩ ⟨by omega, by omega⟩ ?_
    rw [f2.2.2.2.2.2.2 s (fun q => by have := inF_lo q; omega), hn]
    exact ⟨V2.k0, fun _ => s_wi50 V g c hn hn5 h0 hl l1.toNat 0 M2 (by omega) ⟨o2, f2, W2, R7, R8, R9, hok⟩ hh, fun q => by omega⟩
  | succ c' ih =>
    intro k M2 hk o2 f2 W2 R7 R8 R9 hh hok
    have V2 := V.fi f2
    have fe := f2.2.2.2.2.2.2
    have rk := R9 k (by omega)
    refine k_MS_within_9 o2 ⟨by omega, by omega⟩ ⟨by omega, by omega⟩ ?_
    rw [fe s (fun q => by have := inF_lo q; omega), hn, V2.r21, V2.r4, V2.n38, V2.n22, Int.toNat_natCast, V2.f38 k (by omega)]
    refine ⟨V2.k0, fun q => by omega, fun _ => ⟨V2.k38, by omega, V2.k22, by omega, fun v hv => ⟨rk.1.1, (s_MF_set ⟨by split at hv <;> omega, by split at hv <;> omega⟩ (by split at hv <;> omega) ⟨by omega, by omega⟩ (by omega) o2 rk (by omega)).mono (fun M3 h3 => ?_)⟩⟩⟩
    obtain ⟨o3, f3, F3, y1, y2, y3⟩ := h3
    have hv01 : v = 0 ∨ v = 1 := by split at hv <;> omega
    have C3 := fc_one F3 y2 (fun q => y3 (by omega))
    have e3 : fv M3 (s + 88 + 25 * k) = 0 ∨ fv M3 (s + 88 + 25 * k) = 1 := by
      rw [fv_set y1 y2]
      have z0 : ((0 : Int) : Rat) = 0 := rfl
      have z1 : ((1 : Int) : Rat) = 1 := rfl
      rcases hv01 with z | z
      · left; rw [z, z0]; grind
      · right; rw [z, z1]; grind
    have k3 : okF M3 (s + 88 + 25 * k) := by
      rcases e3 with z | z
      · exact ⟨F3, C3, by rw [z]; exact smp_zero, by rw [z]; decide⟩
      · exact ⟨F3, C3, by rw [z]; exact smp_one, by rw [z]; decide⟩
    have f3' : ∀ y, fS (s + 88 + 25 * k) y → s + 88 + 25 * k ≤ y ∧ y ≤ s + 88 + 25 * k + 4 := fun y q => q
    refine ⟨o3, ih (k + 1) M3 (by omega) o3 (f2.trans (f3.mono (fun y q => by have := f3' y q; omega))) (W2.far f3 (fun y q => by have := f3' y q; omega)) (R7.out2 f3 (fun i y hi q => by have := f3' y q; omega)) (R8.out2 f3 (fun i y hi q => by have := f3' y q; omega)) (R9.put (by omega) f3 F3.ft) ?_ (fun j hj => ?_)⟩
    · unfold h30
      rw [f3.2.2.2.2.2.2 (s + 30) (fun q => by have := f3' _ q; omega)]
      exact hh
    · by_cases z : j = k
      · rw [z]; exact k3
      · exact (hok j (by omega)).out f3 (fun y q => by have := f3' y q; omega)
end WI
end
