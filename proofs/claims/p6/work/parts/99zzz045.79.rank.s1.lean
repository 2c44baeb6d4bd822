section
/-! The solver: move and within. -/
theorem p480e : (2 : Int) ^ 480 = 16777216 ^ 20 := by decide
def Bt (M : mM) (s n : Nat) (x : Nat → Rat) : Prop := Vk M s ∧ GW M s ∧ GB M s ∧ mI M s 1 = n ∧ Wk M s ∧ Xt M s 88 n x ∧ ∀ k, k < n → Smp 21 (x k) ∧ 0 ≤ x k
abbrev bmS (s : Nat) : Nat → Prop := fun y => wS s y ∨ (s + 62 ≤ y ∧ y ≤ s + 66)
theorem Bt.out {M M' : mM} {s n : Nat} {x : Nat → Rat} (h : Bt M s n x) (f : FI (bmS s) M M') (hW : Wk M' s) : Bt M' s n x := by
  obtain ⟨V, g, c, e, -, X, b⟩ := h
  have G : sameG M M' s := sameG.of f (by omega) (fun y _ _ => by omega)
  exact ⟨V.fi f, G.gw g, G.gb c, by rw [G.1]; exact e, hW, X.out f (fun y q => by omega), b⟩
/-- the best so far -/
def bsI (M : mM) (s : Nat) (M2 : mM) : Prop := mOk M2 ∧ FI (bmS s) M M2 ∧ Wk M2 s ∧ Fq M2 (s + 62) 900 ∧ Fc M2 (s + 62) ∧ 0 ≤ fv M2 (s + 62) ∧ Smp 185 (fv M2 (s + 62))
abbrev nxS (s k : Nat) : Nat → Prop := fun y => bmS s y ∨ fS (s + 83 + 25 * k) y
/-- a fraction that may stay -/
def okF (M : mM) (f : Nat) : Prop := Fq M f 56 ∧ Fc M f ∧ Smp 21 (fv M f) ∧ 0 ≤ fv M f
def mvQ (M : mM) (s k : Nat) (r : Int) (M' : mM) : Prop := mOk M' ∧ FI (nxS s k) M M' ∧ Wk M' s ∧ ((r = 0 ∧ FI (bmS s) M M') ∨ (r = 1 ∧ okF M' (s + 83 + 25 * k)))
section MV
variable {G : mG} {d s n : Nat} {M : mM} {x : Nat → Rat}
theorem bs_fit {M2 : mM} {y z : Int} (h : bsI M s M2) (h1 : wv M2 (s + 62 + 1) < 2 ^ y.toNat) (h2 : wv M2 (s + 62 + 3) < 2 ^ z.toNat) (hy : y ≤ 480) (hz : z ≤ 480) : mI M2 (s + 62 + 1) 1 ≤ 56 ∧ mI M2 (s + 62 + 3) 1 ≤ 56 ∧ Smp 21 (fv M2 (s + 62)) := by
  obtain ⟨-, -, -, F, C, p, q⟩ := h
  have a1 : (2 : Int) ^ y.toNat ≤ 2 ^ 480 := two_pow_le (by omega)
  have a2 : (2 : Int) ^ z.toNat ≤ 2 ^ 480 := two_pow_le (by omega)
  rw [p480e] at a1 a2
  have b1 := F.2.1.size (k := 20) (Int.lt_of_lt_of_le h1 a1)
  have b2 := F.2.2.1.size (k := 20) (Int.lt_of_lt_of_le h2 a2)
  refine ⟨by omega, by omega, sd M2 (s + 62), sn M2 (s + 62), F.2.2.2.2, ?_, fv_sd F, (smp_b q).1, (smp_b q).2⟩
  exact Int.lt_of_lt_of_le (Int.lt_of_lt_of_le h2 a2) (pow_mono (by omega))
theorem s_MS_move {k : Nat} (hO : mOk M) (hB : Bt M s n x) (hk : k < n) (hR : Rm M s 83) : Ci G y_MS_move (d + 6) [vr s, vi k] M (mvQ M s k) := by
  have hB0 := hB
  obtain ⟨hV, hG, hC, hn, hW, hX, h01⟩ := hB
  have h2 := hG.2.1
  have h3 := hG.2.2.1
  have hc := hG.cmd (i := k) (by omega)
  have hm0 : 0 ≤ mny M s k ∧ mny M s k ≤ 4200 := by unfold mny; omega
  have h01' : ∀ t, t < n → 0 ≤ x t ∧ x t ≤ 1 := fun t ht => ⟨(h01 t ht).2, (smp_b (h01 t ht).1).1⟩
  have hxs : ∀ t, t < n → Smp 21 (x t) := fun t ht => (h01 t ht).1
  refine k_MS_move hO ⟨by omega, by omega⟩ ?_
  rw [hV.r4, hV.n22, hV.r30]
  refine ⟨hV.k0, hV.k22, by omega, fun v hv => ⟨hW.2.2.2.2.2.1.1, (s_MF_set ⟨by split at hv <;> omega, by split at hv <;> omega⟩ (by split at hv <;> omega) ⟨by omega, by omega⟩ (by omega) hO hW.2.2.2.2.2 (by omega)).mono (fun M1 h1 => ?_)⟩⟩
  obtain ⟨o1, f1, F1, y1, y2, y3⟩ := h1
  have hv01 : v = 0 ∨ v = 1 := by split at hv <;> omega
  have C1 := fc_one F1 y2 (fun q => y3 (by omega))
  have e1 : fv M1 (s + 62) = 0 ∨ fv M1 (s + 62) = 1 := by
    rw [fv_set y1 y2]
    have z0 : ((0 : Int) : Rat) = 0 := rfl
    have z1 : ((1 : Int) : Rat) = 1 := rfl
    rcases hv01 with z | z
    · left; rw [z, z0]; grind
    · right; rw [z, z1]; grind
  refine ⟨o1, ?_⟩
  suffices H : ∀ (c i : Nat) (M2 : mM), i + c = (mny M s k).toNat → bsI M s M2 → h_MS_move_25 G (d + 5) s k i M2 (mvQ M s k) by
    refine H (mny M s k).toNat 0 M1 (by omega) ⟨o1, f1.mono (fun y q => by have : s + 62 ≤ y ∧ y ≤ s + 62 + 4 := q; omega), hW.put f1 F1.ft (by omega), F1, C1, ?_, ?_⟩
    · rcases e1 with z | z <;> rw [z] <;> decide
    · rcases e1 with z | z <;> rw [z]
      · exact ⟨1, 0, by omega, by decide, by grind, by grind, by grind⟩
      · exact ⟨1, 1, by omega, by decide, by grind, by grind, by grind⟩
  clear e1 C1 y3 y2 y1 F1 f1 o1 M1
  intro c
  induction c with
  | zero =>
    intro i M2 hi h
    obtain ⟨o2, f2, W2, F2, C2, p2, q2⟩ := id h
    obtain ⟨V2, G2, -, n2, -⟩ := hB0.out f2 W2
    have sg : sameG M M2 s := sameG.of f2 (by omega) (fun y _ _ => by omega)
    have h141 : h_MS_move_141 G (d + 5) s k 0 M2 (mvQ M s k) :=
      k_MS_move_141 o2 ⟨by omega, by omega⟩ ⟨by omega, by omega⟩ ⟨fun _ => ⟨Or.inl rfl, o2, f2.mono (fun y q => Or.inl q), W2, Or.inl ⟨rfl, f2⟩⟩, fun q => absurd rfl q⟩
    refine k_MS_move_25 o2 ⟨by omega, by omega⟩ ⟨by omega, by omega⟩ ⟨V2.k0, (s_MS_many o2 V2 G2 (by omega)).mono (fun y M3 h3' => ?_)⟩
    obtain ⟨e3, hy⟩ := h3'
    subst e3
    rw [sg.hm] at hy
    rw [V2.r30, F2.1.2.1]
    refine ⟨⟨by omega, by omega⟩, o2, fun _ => ⟨V2.k0, F2.1.1, F2.2.1.1.1, (s_MW_places o2 F2.2.1).mono (fun u M4 h4 => ?_)⟩, fun q => by omega⟩
    obtain ⟨e4, u1, u2, u3, -⟩ := h4
    subst e4
    rw [V2.r30, F2.1.2.2]
    refine ⟨⟨by omega, by omega⟩, o2, fun _ => h141, fun hu => ⟨V2.k0, F2.1.1, F2.2.2.1.1.1, (s_MW_places o2 F2.2.2.1).mono (fun z M5 h5 => ?_)⟩⟩
    obtain ⟨e5, z1, z2, z3, -⟩ := h5
    subst e5
    refine ⟨⟨by omega, by omega⟩, o2, fun _ => h141, fun hz => ?_⟩
    have hfit := bs_fit h u3 z3 (by omega) (by omega)
    have rk : Ft M5 (s + 83 + 25 * k) 56 := (hR k (by omega)).out f2 (fun y q => by omega)
    refine k_MS_move_141 o2 ⟨by omega, by omega⟩ ⟨by omega, by omega⟩ ⟨fun q => by omega, fun _ => ?_⟩
    rw [V2.r13, V2.n31, V2.r30, Int.toNat_natCast, V2.f31 k (by omega)]
    refine ⟨V2.k0, V2.k31, by omega, rk.1.1, (s_MF_copy o2 rk F2 (by omega) hfit.1 hfit.2.1).mono (fun M6 h6 => ?_)⟩
    obtain ⟨o6, f6, F6, w4, w5, w6⟩ := h6
    have C6 := fc_copy C2 w4 w5 w6
    exact ⟨o6, Or.inr rfl, o6, (f2.mono (fun y q => Or.inl q)).trans (f6.mono (fun y q => Or.inr q)), W2.far f6 (fun y q => by have : s + 83 + 25 * k ≤ y ∧ y ≤ s + 83 + 25 * k + 4 := q; omega), Or.inr ⟨rfl, F6, C6.1, by rw [C6.2]; exact hfit.2.2, by rw [C6.2]; exact p2⟩⟩
  | succ c ih =>
    intro i M2 hi h
    obtain ⟨o2, f2, W2, F2, C2, p2, q2⟩ := id h
    have B2 := hB0.out f2 W2
    obtain ⟨V2, G2, C2', n2, -, X2, -⟩ := id B2
    have sg : sameG M M2 s := sameG.of f2 (by omega) (fun y _ _ => by omega)
    have him : (i : Int) < mny M2 s k := by rw [sg.hm]; omega
    refine k_MS_move_25 o2 ⟨by omega, by omega⟩ ⟨by omega, by omega⟩ ⟨V2.k0, (s_MS_many o2 V2 G2 (by omega)).mono (fun y M3 h3' => ?_)⟩
    obtain ⟨e3, hy⟩ := h3'
    subst e3
    rw [sg.hm] at hy
    rw [V2.r21]
    refine ⟨⟨by omega, by omega⟩, o2, fun q => by omega, fun _ => ⟨V2.k0, (s_worthG (d := d) (n := n) (p := 21) (by omega) hxs (Or.inl ⟨rfl, rfl, rfl⟩) o2 V2 G2 C2' n2 (by omega) him W2 X2 h01').mono (fun M4 h4 => ?_)⟩⟩
    obtain ⟨o4, f4, W4, F4, C4, v4, s4⟩ := h4
    have V4 := V2.fi f4
    have hcx := cx_lt G2 (k := k) (i := i) (by omega) him
    have hw0 : 0 ≤ cw M3 s (cx M3 s k i) x := by
      have a := cw_le C2' hcx (f := fun _ => 0) (g := x) (fun b hb => (h01' _ (by have := tg_lt G2 hcx hb; omega)).1)
      rw [cw_const C2' hcx] at a
      exact a
    have b4 := F2.out f4 (fun y q => by omega)
    have c4 := C2.out F2 f4 (fun y q => by omega)
    have e4 := fv_out F2 f4 (fun y q => by omega)
    have sz1 := smp_size F4 C4 (k := 185) (by rw [v4]; exact s4)
    have sz2 := smp_size b4.1 c4 (k := 185) (by rw [e4]; exact q2)
    rw [V4.r0, V4.r28, V4.r30]
    refine ⟨o4, V4.k0, W4.1.1.1, (s_MU_compare (d := d + 3) o4 W4.1 F4 b4.1 (by unfold suO; omega) (by unfold suO; omega) (by omega) (by omega)).mono (fun u M5 h5 => ?_)⟩
    obtain ⟨o5, f5, Z5, hcv⟩ := h5
    have hc3 : u = -1 ∨ u = 0 ∨ u = 1 := by split at hcv <;> (try split at hcv) <;> omega
    have V5 := V4.fi f5
    have W5 : Wk M5 s := W4.out f5 Z5 (fun y q => by omega)
    have b5 := b4.1.out f5 (fun y q => by omega)
    have c5 := c4.out b4.1 f5 (fun y q => by omega)
    have e5 := fv_out b4.1 f5 (fun y q => by omega)
    have F5 := F4.out f5 (fun y q => by omega)
    have C5 := C4.out F4 f5 (fun y q => by omega)
    have v5 := fv_out F4 f5 (fun y q => by omega)
    have f25 : FI (bmS s) M M5 := (f2.trans (f4.mono (fun y q => Or.inl q))).trans (f5.mono (fun y q => by omega))
    have hI5 : bsI M s M5 := ⟨o5, f25, W5, b5.1, c5, by rw [e5, e4]; exact p2, by rw [e5, e4]; exact q2⟩
    have hnext : ∀ M6, bsI M s M6 → h_MS_move_98 G (d + 5) s k i M6 (mvQ M s k) := fun M6 h6 =>
      k_MS_move_98 h6.1 ⟨by omega, by omega⟩ ⟨by omega, by omega⟩ (ih (i + 1) M6 (by omega) h6)
    have sz3 := smp_size F5.1 C5 (k := 185) (by rw [v5, v4]; exact s4)
    have hcopy : Cv G y_MF_copy (d + 5) [vr (s + 62), vr (s + 52)] M5 (fun M6 => mOk M6 ∧ h_MS_move_98 G (d + 5) s k i M6 (mvQ M s k)) := by
      refine (s_MF_copy o5 W5.2.2.2.2.2 F5.1 (by omega) (by omega) (by omega)).mono (fun M6 h6 => ?_)
      obtain ⟨o6, f6, F6, w4, w5, w6⟩ := h6
      have C6 := fc_copy C5 w4 w5 w6
      exact ⟨o6, hnext M6 ⟨o6, f25.trans (f6.mono (fun y q => by have : s + 62 ≤ y ∧ y ≤ s + 62 + 4 := q; omega)), W5.put f6 F6.ft (by omega), F6, C6.1, by rw [C6.2, v5, v4]; exact hw0, by rw [C6.2, v5, v4]; exact s4⟩⟩
    rw [V5.r30, V5.r28, V5.r4, V5.n22]
    exact ⟨⟨by omega, by omega⟩, o5, fun _ => ⟨V5.k0, b5.1.1.1, hcopy⟩, fun _ => ⟨V5.k0, V5.k22, by omega, fun _ => ⟨fun _ => hnext M5 hI5, fun _ => ⟨b5.1.1.1, hcopy⟩⟩, fun _ => ⟨fun _ => hnext M5 hI5, fun _ => ⟨b5.1.1.1, hcopy⟩⟩⟩⟩
end MV
end
section
/-! The solver: within. -/
def Ok (M : mM) (s e n : Nat) : Prop := ∀ k, k < n → okF M (s + e + 25 * k)
abbrev inF (s : Nat) : Nat → Prop := fun y => bmS s y ∨ y = s + 30 ∨ eS s 73 y ∨ eS s 83 y ∨ eS s 88 y
theorem okF.out {S : Nat → Prop} {M M' : mM} {f : Nat} (h : okF M f) (k : FI S M M') (hs : ∀ y, S y → y < f ∨ f + 4 < y) : okF M' f := by
  obtain ⟨h1, h2, h3, h4⟩ := h
  have e := fv_out h1 k hs
  exact ⟨(h1.out k hs).1, h2.out h1 k hs, by rw [e]; exact h3, by rw [e]; exact h4⟩
theorem Ok.out {S : Nat → Prop} {M M' : mM} {s e n : Nat} (h : Ok M s e n) (k : FI S M M') (hs : ∀ i y, i < n → S y → y < s + e + 25 * i ∨ s + e + 25 * i + 4 < y) : Ok M' s e n :=
  fun i hi => (h i hi).out k (fun y q => hs i y hi q)
theorem Ok.xt {M : mM} {s e n : Nat} (h : Ok M s e n) : Xt M s e n (fun k => fv M (s + e + 25 * k)) ∧ ∀ k, k < n → Smp 21 (fv M (s + e + 25 * k)) ∧ 0 ≤ fv M (s + e + 25 * k) :=
  ⟨fun k hk => ⟨(h k hk).1, (h k hk).2.1, rfl⟩, fun k hk => (h k hk).2.2⟩
theorem inF_far {s e i y : Nat} (he : e = 68 ∨ e = 78) (hi : i < 512) (q : inF s y) : y < s + e + 25 * i ∨ s + e + 25 * i + 4 < y := by
  rcases he with z | z <;> subst z <;> omega
theorem inF_vH {s y : Nat} (q : inF s y) : vH s y := by omega
theorem inF_ct {s y : Nat} (q : inF s y) : y < s + 12868 := by omega
theorem inF_lo {s y : Nat} (q : inF s y) : s < y ∧ (y < s + 22 ∨ s + 28 < y) ∧ y ≠ s + 32 ∧ y ≠ s + 33 ∧ y ≠ s + 34 := by omega
/-- copying one of 512 fractions to another place -/
theorem ok_copy {G : mG} {d s k a b : Nat} {M : mM} {Q : mM → Prop} (hO : mOk M) (hR : Rm M s a) (hk : k < 512) (h : okF M (s + b + 25 * k)) (hne : a + 4 < b ∨ b + 4 < a) (hQ : ∀ M', mOk M' → FI (fS (s + a + 25 * k)) M M' → okF M' (s + a + 25 * k) → Rm M' s a → Q M') : Cv G y_MF_copy (d + 1) [vr (s + a + 25 * k), vr (s + b + 25 * k)] M Q := by
  obtain ⟨h1, h2, h3, h4⟩ := h
  refine (s_MF_copy hO (hR k hk) h1 (by omega) h1.2.1.1.2.2.2.2.2.2 h1.2.2.1.1.2.2.2.2.2.2).mono (fun M' h' => ?_)
  obtain ⟨o', f', F', w4, w5, w6⟩ := h'
  have C' := fc_copy h2 w4 w5 w6
  exact hQ M' o' f' ⟨F', C'.1, by rw [C'.2]; exact h3, by rw [C'.2]; exact h4⟩ (hR.put hk f' F'.ft)
def wiI (M : mM) (s n : Nat) (M2 : mM) : Prop := mOk M2 ∧ FI (inF s) M M2 ∧ Wk M2 s ∧ Rm M2 s 73 ∧ Rm M2 s 83 ∧ Rm M2 s 88 ∧ Ok M2 s 88 n
def wiQ (M : mM) (s n : Nat) (r : Int) (M' : mM) : Prop := mOk M' ∧ FI (inF s) M M' ∧ Wk M' s ∧ Rm M' s 73 ∧ Rm M' s 83 ∧ Rm M' s 88 ∧ (∀ j, j ≠ 1 → mI M' (s + 30) j = mI M (s + 30) j) ∧ ((r = 0 ∧ mI M' (s + 30) 1 = 1 ∧ Ok M' s 73 n) ∨ (r = 6 ∧ mI M' (s + 30) 1 = 0))
section WI
variable {G : mG} {d s n : Nat} {M : mM} {l1 : Int}
/-- where has[1] is off -/
abbrev h30 (M : mM) (s : Nat) (M2 : mM) : Prop := (∀ j, j ≠ 1 → mI M2 (s + 30) j = mI M (s + 30) j) ∧ mI M2 (s + 30) 1 = 0
theorem s_wi121 (hV : Vk M s) (hn : mI M s 1 = n) (hn5 : n ≤ 512) : ∀ (c k : Nat) (M2 : mM), k + c = n → wiI M s n M2 → h30 M s M2 → Ok M2 s 73 k → h_MS_within_121 G (d + 6) s k M2 (wiQ M s n) := by
  intro c
  induction c with
  | zero =>
    intro k M2 hk h hh hok
    have ek : k = n := by omega
    subst ek
    obtain ⟨o2, f2, W2, R7, R8, R9, K2⟩ := h
    have V2 := hV.fi f2
    have fe := f2.2.2.2.2.2.2
    refine k_MS_within_121 o2 ⟨by omega, by omega⟩ ?_
    rw [fe s (fun q => by have := inF_lo q; omega), hn, V2.r12, V2.n30]
    refine ⟨V2.k0, fun _ => ⟨V2.k30, by omega, fun M3 e3 => ?_⟩, fun q => by omega⟩
    have f3 : FI (fun y => y = s + 30) M2 M3 := by rw [e3]; exact FI.ui rfl
    have o3 : mOk M3 := by rw [e3]; exact mOk_UI o2 ⟨by omega, by omega⟩
    refine ⟨o3, f2.trans (f3.mono (fun y q => Or.inr (Or.inl q))), W2.far f3 (fun y q => by omega), R7.out f3 (fun y q => by omega), R8.out f3 (fun y q => by omega), R9.out f3 (fun y q => by omega), fun j hj => ?_, Or.inl ⟨rfl, ?_, hok.out f3 (fun i y hi q => by omega)⟩⟩
    · rw [e3, mI_UI, if_neg (fun w => hj w.2)]
      exact hh.1 j hj
    · rw [e3, mI_UI, if_pos ⟨rfl, rfl⟩]
  | succ c ih =>
    intro k M2 hk h hh hok
    obtain ⟨o2, f2, W2, R7, R8, R9, K2⟩ := h
    have V2 := hV.fi f2
    have fe := f2.2.2.2.2.2.2
    have ea : mR M2 (s + 29) (3 * (k : Int) + 1).toNat = s + 73 + 25 * k := by
      rw [show (3 * (k : Int) + 1).toNat = 3 * k + 1 by omega, V2.f29 k 1 (by omega) (by omega)]
      omega
    refine k_MS_within_121 o2 ⟨by omega, by omega⟩ ?_
    rw [fe s (fun q => by have := inF_lo q; omega), hn, V2.r11, V2.r21, V2.n29, V2.n38, ea, Int.toNat_natCast, V2.f38 k (by omega)]
    refine ⟨V2.k0, fun q => by omega, fun _ => ⟨V2.k29, by omega, V2.k38, by omega, (R7 k (by omega)).1.1, ok_copy (d := d + 5) o2 R7 (by omega) (K2 k (by omega)) (by omega) (fun M3 o3 f3 k3 r3 => ?_)⟩⟩
    have f3' : ∀ y, fS (s + 73 + 25 * k) y → s + 73 + 25 * k ≤ y ∧ y ≤ s + 73 + 25 * k + 4 := fun y q => q
    refine ⟨o3, ih (k + 1) M3 (by omega) ⟨o3, f2.trans (f3.mono (fun y q => by have := f3' y q; omega)), W2.far f3 (fun y q => by have := f3' y q; omega), r3, R8.out2 f3 (fun i y hi q => by have := f3' y q; omega), R9.out2 f3 (fun i y hi q => by have := f3' y q; omega), K2.out f3 (fun i y hi q => by have := f3' y q; omega)⟩ ?_ (fun j hj => ?_)⟩
    · unfold h30
      rw [f3.2.2.2.2.2.2 (s + 30) (fun q => by have := f3' _ q; omega)]
      exact hh
    · by_cases z : j = k
      · rw [z]; exact k3
      · exact (hok j (by omega)).out f3 (fun y q => by have := f3' y q; omega)
theorem s_wi84 {r : Nat} (hV : Vk M s) (hn : mI M s 1 = n) (hn5 : n ≤ 512) (h0 : 0 ≤ l1) (hl : l1 ≤ 32) (hr : r ≤ 32) (hQ : ∀ M', wiI M s n M' → h30 M s M' → h_MS_within_50 G (d + 6) s l1 ((r : Int) + 1) M' (wiQ M s n)) : ∀ (c k : Nat) (M2 : mM), k + c = n → wiI M s n M2 → h30 M s M2 → Ok M2 s 83 n → h_MS_within_84 G (d + 6) s l1 r k M2 (wiQ M s n) := by
  intro c
  induction c with
  | zero =>
    intro k M2 hk h hh hok
    obtain ⟨o2, f2, -⟩ := id h
    have V2 := hV.fi f2
    refine k_MS_within_84 o2 ⟨by omega, by omega⟩ ⟨by omega, by omega⟩ ⟨by omega, by omega⟩ ?_
    rw [f2.2.2.2.2.2.2 s (fun q => by have := inF_lo q; omega), hn]
    exact ⟨V2.k0, fun _ => hQ M2 h hh, fun q => by omega⟩
  | succ c ih =>
    intro k M2 hk h hh hok
    obtain ⟨o2, f2, W2, R7, R8, R9, K2⟩ := h
    have V2 := hV.fi f2
    have fe := f2.2.2.2.2.2.2
    refine k_MS_within_84 o2 ⟨by omega, by omega⟩ ⟨by omega, by omega⟩ ⟨by omega, by omega⟩ ?_
    rw [fe s (fun q => by have := inF_lo q; omega), hn, V2.r13, V2.r21, V2.n31, V2.n38, Int.toNat_natCast, V2.f38 k (by omega), V2.f31 k (by omega)]
    refine ⟨V2.k0, fun q => by omega, fun _ => ⟨V2.k38, by omega, V2.k31, by omega, (R9 k (by omega)).1.1, ok_copy (d := d + 5) o2 R9 (by omega) (hok k (by omega)) (by omega) (fun M3 o3 f3 k3 r3 => ?_)⟩⟩
    have f3' : ∀ y, fS (s + 88 + 25 * k) y → s + 88 + 25 * k ≤ y ∧ y ≤ s + 88 + 25 * k + 4 := fun y q => q
    refine ⟨o3, ih (k + 1) M3 (by omega) ⟨o3, f2.trans (f3.mono (fun y q => by have := f3' y q; omega)), W2.far f3 (fun y q => by have := f3' y q; omega), R7.out2 f3 (fun i y hi q => by have := f3' y q; omega), R8.out2 f3 (fun i y hi q => by have := f3' y q; omega), r3, fun j hj => ?_⟩ ?_ (hok.out f3 (fun i y hi q => by have := f3' y q; omega))⟩
    · by_cases z : j = k
      · rw [z]; exact k3
      · exact (K2 j hj).out f3 (fun y q => by have := f3' y q; omega)
    · unfold h30
      rw [f3.2.2.2.2.2.2 (s + 30) (fun q => by have := f3' _ q; omega)]
      exact hh
theorem s_wi50 (hV : Vk M s) (hG : GW M s) (hC : GB M s) (hn : mI M s 1 = n) (hn5 : n ≤ 512) (h0 : 0 ≤ l1) (hl : l1 ≤ 32) : ∀ (t r : Nat) (M2 : mM), (r : Int) + t = l1 → wiI M s n M2 → h30 M s M2 → h_MS_within_50 G (d + 6) s l1 r M2 (wiQ M s n) := by
  intro t
  induction t with
  | zero =>
    intro r M2 ht h hh
    exact k_MS_within_50 h.1 ⟨by omega, by omega⟩ ⟨by omega, by omega⟩ ⟨fun _ => s_wi121 hV hn hn5 n 0 M2 (by omega) h hh (fun j hj => by omega), fun q => by omega⟩
  | succ t ih =>
    intro r M2 ht h hh
    refine k_MS_within_50 h.1 ⟨by omega, by omega⟩ ⟨by omega, by omega⟩ ⟨fun q => by omega, fun _ => ?_⟩
    suffices H : ∀ (c k : Nat) (M3 : mM), k + c = n → wiI M s n M3 → h30 M s M3 → Ok M3 s 83 k → h_MS_within_57 G (d + 6) s l1 r k M3 (wiQ M s n) from H n 0 M2 (by omega) h hh (fun j hj => by omega)
    clear h hh M2
    intro c
    induction c with
    | zero =>
      intro k M3 hk h hh hok
      have ek : k = n := by omega
      subst ek
      obtain ⟨o2, f2, -⟩ := id h
      have V2 := hV.fi f2
      refine k_MS_within_57 o2 ⟨by omega, by omega⟩ ⟨by omega, by omega⟩ ⟨by omega, by omega⟩ ?_
      rw [f2.2.2.2.2.2.2 s (fun q => by have := inF_lo q; omega), hn]
      exact ⟨V2.k0, fun _ => s_wi84 hV hn hn5 h0 hl (by omega) (fun M' h' hh' => ih (r + 1) M' (by omega) h' hh') k 0 M3 (by omega) h hh hok, fun q => by omega⟩
    | succ c ihc =>
      intro k M3 hk h hh hok
      obtain ⟨o3, f3, W3, R7, R8, R9, K3⟩ := id h
      have V3 := hV.fi f3
      have sg : sameG M M3 s := sameG.of f3 (fun q => by have := inF_lo q; omega) (fun y a b q => by have := inF_lo q; omega)
      have x3 := K3.xt
      refine k_MS_within_57 o3 ⟨by omega, by omega⟩ ⟨by omega, by omega⟩ ⟨by omega, by omega⟩ ?_
      rw [sg.1, hn]
      refine ⟨V3.k0, fun q => by omega, fun _ => (s_MS_move (d := d) o3 ⟨V3, sg.gw hG, sg.gb hC, by rw [sg.1]; exact hn, W3, x3.1, x3.2⟩ (by omega) R8).mono (fun y M4 h4 => ?_)⟩
      obtain ⟨o4, f4, W4, h4⟩ := h4
      have f4' : ∀ y, nxS s k y → bmS s y ∨ (s + 83 + 25 * k ≤ y ∧ y ≤ s + 83 + 25 * k + 4) := fun y q => q
      have e30 : mI M4 (s + 30) = mI M3 (s + 30) := f4.2.2.2.2.2.2 _ (fun q => by have := f4' _ q; omega)
      have hh4 : h30 M s M4 := by unfold h30; rw [e30]; exact hh
      have f04 : FI (inF s) M M4 := f3.trans (f4.mono (fun y q => by have := f4' y q; omega))
      have R74 : Rm M4 s 73 := R7.out2 f4 (fun i y hi q => by have := f4' y q; omega)
      have R94 : Rm M4 s 88 := R9.out2 f4 (fun i y hi q => by have := f4' y q; omega)
      have K4 : Ok M4 s 88 n := K3.out f4 (fun i y hi q => by have := f4' y q; omega)
      rcases h4 with ⟨y0, g4⟩ | ⟨y1, k4⟩
      · subst y0
        have R84 : Rm M4 s 83 := R8.out g4 (fun y q => by omega)
        exact ⟨⟨by omega, by omega⟩, o4, fun _ => ⟨o4, f04, W4, R74, R84, R94, hh4.1, Or.inr ⟨rfl, hh4.2⟩⟩, fun q => absurd rfl q⟩
      · subst y1
        have R84 : Rm M4 s 83 := fun i hi => by
          by_cases z : i = k
          · rw [z]; exact k4.1.ft
          · exact (R8 i hi).out f4 (fun y q => by have := f4' y q; omega)
        refine ⟨⟨by omega, by omega⟩, o4, fun q => by omega, fun _ => ihc (k + 1) M4 (by omega) ⟨o4, f04, W4, R74, R84, R94, K4⟩ hh4 (fun j hj => ?_)⟩
        by_cases z : j = k
        · rw [z]; exact k4
        · exact (hok j (by omega)).out f4 (fun y q => by have := f4' y q; omega)
theorem s_MS_within (h0 : 0 ≤ l1) (hl : l1 ≤ 32) (hO : mOk M) (h : Sv M s n) : Ci G y_MS_within (d + 7) [vr s, vi l1] M (fun r M' => mOk M' ∧ FI (vH s) M M' ∧ Sv M' s n ∧ (r = 0 ∨ r = 6)) := by
  have hn5 := h.n5
  obtain ⟨V, g, c, hn, t, W, T, R, H, hc⟩ := id h
  have hfin : ∀ r M', wiQ M s n r M' → (mOk M' ∧ FI (vH s) M M' ∧ Sv M' s n ∧ (r = 0 ∨ r = 6)) := fun r M' k => by
    obtain ⟨o', f', W', R7, R8, R9, k30, kr⟩ := k
    have sg : sameG M M' s := sameG.of f' (fun q => by have := inF_lo q; omega) (fun y a b q => by have := inF_lo q; omega)
    have fe := f'.2.2.2.2.2.2
    refine ⟨o', f'.mono (fun y q => inF_vH q), ⟨V.fi f', sg.gw g, sg.gb c, by rw [sg.1]; exact hn, t.out sg (fe _ (fun q => by have := inF_lo q; omega)), W', T.out f' (fun y q => inF_ct q), fun e he => ?_, fun w hw => ?_, fun q => ?_⟩, by rcases kr with z | z; exact Or.inl z.1; exact Or.inr z.1⟩
    · rcases he with z | z | z | z | z <;> subst z
      · exact (R 68 (by omega)).out2 f' (fun i y hi q => inF_far (by omega) hi q)
      · exact R7
      · exact (R 78 (by omega)).out2 f' (fun i y hi q => inF_far (by omega) hi q)
      · exact R8
      · exact R9
    · by_cases z : w = 1
      · subst z
        rcases kr with ⟨z1, z2, z3⟩ | ⟨z1, z2⟩
        · have x3 := z3.xt
          exact ⟨Or.inr z2, fun _ => ⟨_, x3.1, x3.2⟩⟩
        · exact ⟨Or.inl z2, fun q => by omega⟩
      · obtain ⟨a1, a2⟩ := H w hw
        unfold Hs
        rw [k30 w z]
        refine ⟨a1, fun q => ?_⟩
        obtain ⟨x, X, v⟩ := a2 q
        exact ⟨x, X.out2 f' (fun i y hi q => inF_far (by omega) (by omega) q), v⟩
    · rw [k30 0 (by omega)] at q
      exact (hc q).out sg (fe _ (fun q => by have := inF_lo q; omega))
  refine Ci.mono (Q := wiQ M s n) ?_ hfin
  refine k_MS_within hO ⟨by omega, by omega⟩ ?_
  rw [V.r12, V.n30]
  refine ⟨V.k0, V.k30, by omega, fun M1 e1 => ?_⟩
  have f1 : FI (fun y => y = s + 30) M M1 := by rw [e1]; exact FI.ui rfl
  have o1 : mOk M1 := by rw [e1]; exact mOk_UI hO ⟨by omega, by omega⟩
  have hh1 : h30 M s M1 := ⟨fun j hj => by rw [e1, mI_UI, if_neg (fun w => hj w.2)], by rw [e1, mI_UI, if_pos ⟨rfl, rfl⟩]⟩
  suffices H : ∀ (c k : Nat) (M2 : mM), k + c = n → mOk M2 → FI (inF s) M M2 → Wk M2 s → Rm M2 s 73 → Rm M2 s 83 → Rm M2 s 88 → h30 M s M2 → Ok M2 s 88 k → h_MS_within_9 G (d + 6) s l1 k M2 (wiQ M s n) from
    H n 0 M1 (by omega) o1 (f1.mono (fun y q => Or.inr (Or.inl q))) (W.far f1 (fun y q => by omega)) ((R 73 (by omega)).out f1 (fun y q => by omega)) ((R 83 (by omega)).out f1 (fun y q => by omega)) ((R 88 (by omega)).out f1 (fun y q => by omega)) hh1 (fun j hj => by omega)
  intro c'
  induction c' with
  | zero =>
    intro k M2 hk o2 f2 W2 R7 R8 R9 hh hok
    have ek : k = n := by omega
    subst ek
    have V2 := V.fi f2
    refine k_MS_within_9 o2 ⟨by omega, by omega⟩ ⟨by omega, by omega⟩ ?_
    rw [f2.2.2.2.2.2.2 s (fun q => by have := inF_lo q; omega), hn]
    exact ⟨V2.k0, fun _ => s_wi50 V g c hn hn5 h0 hl l1.toNat 0 M2 (by omega) ⟨o2, f2, W2, R7, R8, R9, hok⟩ hh, fun q => by omega⟩
  | succ c' ih =>
    intro k M2 hk o2 f2 W2 R7 R8 R9 hh hok
    have V2 := V.fi f2
    have fe := f2.2.2.2.2.2.2
    have rk := R9 k (by omega)
    refine k_MS_within_9 o2 ⟨by omega, by omega⟩ ⟨by omega, by omega⟩ ?_
    rw [fe s (fun q => by have := inF_lo q; omega), hn, V2.r21, V2.r4, V2.n38, V2.n22, Int.toNat_natCast, V2.f38 k (by omega)]
    refine ⟨V2.k0, fun q => by omega, fun _ => ⟨V2.k38, by omega, V2.k22, by omega, fun v hv => ⟨rk.1.1, (s_MF_set ⟨by split at hv <;> omega, by split at hv <;> omega⟩ (by split at hv <;> omega) ⟨by omega, by omega⟩ (by omega) o2 rk (by omega)).mono (fun M3 h3 => ?_)⟩⟩⟩
    obtain ⟨o3, f3, F3, y1, y2, y3⟩ := h3
    have hv01 : v = 0 ∨ v = 1 := by split at hv <;> omega
    have C3 := fc_one F3 y2 (fun q => y3 (by omega))
    have e3 : fv M3 (s + 88 + 25 * k) = 0 ∨ fv M3 (s + 88 + 25 * k) = 1 := by
      rw [fv_set y1 y2]
      have z0 : ((0 : Int) : Rat) = 0 := rfl
      have z1 : ((1 : Int) : Rat) = 1 := rfl
      rcases hv01 with z | z
      · left; rw [z, z0]; grind
      · right; rw [z, z1]; grind
    have k3 : okF M3 (s + 88 + 25 * k) := by
      rcases e3 with z | z
      · exact ⟨F3, C3, by rw [z]; exact smp_zero, by rw [z]; decide⟩
      · exact ⟨F3, C3, by rw [z]; exact smp_one, by rw [z]; decide⟩
    have f3' : ∀ y, fS (s + 88 + 25 * k) y → s + 88 + 25 * k ≤ y ∧ y ≤ s + 88 + 25 * k + 4 := fun y q => q
    refine ⟨o3, ih (k + 1) M3 (by omega) o3 (f2.trans (f3.mono (fun y q => by have := f3' y q; omega))) (W2.far f3 (fun y q => by have := f3' y q; omega)) (R7.out2 f3 (fun i y hi q => by have := f3' y q; omega)) (R8.out2 f3 (fun i y hi q => by have := f3' y q; omega)) (R9.put (by omega) f3 F3.ft) ?_ (fun j hj => ?_)⟩
    · unfold h30
      rw [f3.2.2.2.2.2.2 (s + 30) (fun q => by have := f3' _ q; omega)]
      exact hh
    · by_cases z : j = k
      · rw [z]; exact k3
      · exact (hok j (by omega)).out f3 (fun y q => by have := f3' y q; omega)
end WI
end
section
/-! The solver: what it tells. -/
theorem s_digits2 {G : mG} {d u a ra c : Nat} {M : mM} {D : Nat} (hO : mOk M) (hZ : Sz M u) (hA : W3 M a ra) (oa : a + 1 < u + 11 ∨ u + 12 < a) (z1 : mI M a 1 ≤ 900) (hc : mK M c = 30) (hn : D ≤ mN M c) (hD : 0 < D) (hD2 : D < 100000) (hv : wv M a < 10 ^ D) (oc : c < u + 1 ∨ u + 20 < c) :
    Ci G y_MU_digits (d + 2) [vr u, vr a, vr c] M (fun x M' => mOk M' ∧ FI (fun x => x = u + 11 ∨ x = u + 12 ∨ x = c) M M' ∧ Sz M' u ∧ 0 < x ∧ x ≤ D ∧ ∀ j : Nat, (j : Int) < x → 0 ≤ mI M' c j ∧ mI M' c j ≤ 9) := by
  refine k_MU_digits hO ?_
  rw [hZ.1.2.2.2.1]
  refine ⟨hZ.1.1, (hZ.wh 11 (by decide)).1, (s_MW_copy hO (hZ.wh 11 (by decide)) hA (by omega) z1).mono (fun M1 h1 => ?_)⟩
  obtain ⟨g1, g2, g3, g4⟩ := h1
  have Z1 := hZ.step (c := 11) (by decide) rfl g2 g3.1
  refine ⟨g1, ?_⟩
  suffices H : ∀ (k : Nat) (l : Int) (M1 : mM), l + k + 1 = D → 0 ≤ l → mOk M1 → FI (fun x => x = u + 11 ∨ x = u + 12 ∨ x = c) M M1 → Sz M1 u → W3 M1 (u + 11) 900 → wv M1 (u + 11) < 10 ^ (k + 1) → (∀ j : Nat, (j : Int) < l → 0 ≤ mI M1 c j ∧ mI M1 c j ≤ 9) → h_MU_digits_10 G (d + 1) u c l M1 (fun x M' => mOk M' ∧ FI (fun x => x = u + 11 ∨ x = u + 12 ∨ x = c) M M' ∧ Sz M' u ∧ 0 < x ∧ x ≤ D ∧ ∀ j : Nat, (j : Int) < x → 0 ≤ mI M' c j ∧ mI M' c j ≤ 9) from
    H (D - 1) 0 M1 (by omega) (by omega) g1 (g2.mono (fun x q => by omega)) Z1 g3 (by rw [g4, show D - 1 + 1 = D by omega]; exact hv) (fun j hj => by omega)
  intro k
  induction k with
  | zero =>
    intro l M1 hk h0 hO1 F1 Z1 W1 hw hd
    refine k_MU_digits_10 hO1 ⟨by omega, by omega⟩ ?_
    rw [Z1.1.2.2.2.1]
    refine ⟨Z1.1.1, W1.1.1, (s_MW_tenth hO1 W1).mono (fun x M2 h2 => ?_)⟩
    obtain ⟨k1, k2, k3, k4, k5⟩ := h2
    have Z2 := Z1.step (c := 11) (by decide) rfl k2 k3.1
    have F2 := F1.trans (k2.mono (fun x q => by omega))
    have n2 : mN M2 c = mN M c := by rw [F2.2.1]
    refine ⟨⟨by omega, by omega⟩, k1, by rw [F2.1]; exact hc, by omega, fun M3 e3 => ?_⟩
    have f3 : FI (fun x => x = c) M2 M3 := by rw [e3]; exact FI.ui rfl
    have o3 : mOk M3 := by rw [e3]; exact mOk_UI k1 ⟨by omega, by omega⟩
    have hd3 : ∀ j : Nat, (j : Int) < l + 1 → 0 ≤ mI M3 c j ∧ mI M3 c j ≤ 9 := fun j hj => by
      rw [e3, mI_UI]
      by_cases z : j = l.toNat
      · rw [if_pos ⟨rfl, z⟩]
        omega
      · rw [if_neg (fun w => z w.2), k2.2.2.2.2.2.2 c (by omega)]
        exact hd j (by omega)
    have Z3 : Sz M3 u := ⟨Z2.1.fi f3, Z2.2.1.fi f3, Z2.2.2.1.fi f3, fun e he => (Z2.wh e he).out f3 (by
      have h1 : ∀ e ∈ szL, 1 ≤ e ∧ e ≤ 20 := by decide
      have h2 := h1 e he
      omega)⟩
    obtain ⟨W3', v3⟩ := k3.out f3 (by omega) (by omega)
    rw [Z3.1.2.2.2.1]
    refine ⟨Z3.1.1, W3'.1.1, (s_MW_isZero o3 W3'.1).mono (fun y M4 h4 => ?_)⟩
    obtain ⟨e4, hy⟩ := h4
    subst e4
    have hz : mI M4 (u + 11) 1 = 0 := W3'.zero.2 (by have hw' : wv M1 (u + 11) < 10 := hw; have := W1.nonneg; omega)
    rw [if_pos hz] at hy
    exact ⟨⟨by omega, by omega⟩, o3, fun q => by omega, fun _ => ⟨o3, F2.trans (f3.mono (fun x q => by omega)), Z3, by omega, by omega, hd3⟩⟩
  | succ k ih =>
    intro l M1 hk h0 hO1 F1 Z1 W1 hw hd
    refine k_MU_digits_10 hO1 ⟨by omega, by omega⟩ ?_
    rw [Z1.1.2.2.2.1]
    refine ⟨Z1.1.1, W1.1.1, (s_MW_tenth hO1 W1).mono (fun x M2 h2 => ?_)⟩
    obtain ⟨k1, k2, k3, k4, k5⟩ := h2
    have Z2 := Z1.step (c := 11) (by decide) rfl k2 k3.1
    have F2 := F1.trans (k2.mono (fun x q => by omega))
    have n2 : mN M2 c = mN M c := by rw [F2.2.1]
    refine ⟨⟨by omega, by omega⟩, k1, by rw [F2.1]; exact hc, by omega, fun M3 e3 => ?_⟩
    have f3 : FI (fun x => x = c) M2 M3 := by rw [e3]; exact FI.ui rfl
    have o3 : mOk M3 := by rw [e3]; exact mOk_UI k1 ⟨by omega, by omega⟩
    have hd3 : ∀ j : Nat, (j : Int) < l + 1 → 0 ≤ mI M3 c j ∧ mI M3 c j ≤ 9 := fun j hj => by
      rw [e3, mI_UI]
      by_cases z : j = l.toNat
      · rw [if_pos ⟨rfl, z⟩]
        omega
      · rw [if_neg (fun w => z w.2), k2.2.2.2.2.2.2 c (by omega)]
        exact hd j (by omega)
    have Z3 : Sz M3 u := ⟨Z2.1.fi f3, Z2.2.1.fi f3, Z2.2.2.1.fi f3, fun e he => (Z2.wh e he).out f3 (by
      have h1 : ∀ e ∈ szL, 1 ≤ e ∧ e ≤ 20 := by decide
      have h2 := h1 e he
      omega)⟩
    obtain ⟨W3', v3⟩ := k3.out f3 (by omega) (by omega)
    rw [Z3.1.2.2.2.1]
    refine ⟨Z3.1.1, W3'.1.1, (s_MW_isZero o3 W3'.1).mono (fun y M4 h4 => ?_)⟩
    obtain ⟨e4, hy⟩ := h4
    subst e4
    refine ⟨⟨by split at hy <;> omega, by split at hy <;> omega⟩, o3, fun q => ih (l + 1) M4 (by omega) (by omega) o3 (F2.trans (f3.mono (fun x q => by omega))) Z3 W3' ?_ hd3, fun _ => ⟨o3, F2.trans (f3.mono (fun x q => by omega)), Z3, by omega, by omega, hd3⟩⟩
    rw [v3, k4]
    have : (10 : Int) ^ (k + 1 + 1) = 10 ^ (k + 1) * 10 := Int.pow_succ _ _
    generalize (10 : Int) ^ (k + 1) = P at *
    omega
theorem Hs.out {S : Nat → Prop} {M M' : mM} {s n w : Nat} (h : Hs M s n w) (f : FI S M M') (h0 : ¬ S (s + 30)) (hs : ∀ y, S y → y < s + 68) (hw : w < 3) : Hs M' s n w := by
  obtain ⟨h1, h2⟩ := h
  unfold Hs
  rw [f.2.2.2.2.2.2 _ h0]
  refine ⟨h1, fun q => ?_⟩
  obtain ⟨x, X, v⟩ := h2 q
  exact ⟨x, X.out f (fun y q => by have := hs y q; omega), v⟩
theorem Sv.out {S : Nat → Prop} {M M' : mM} {s n : Nat} (h : Sv M s n) (f : FI S M M') (hs : ∀ y, S y → (s < y ∧ y < s + 22) ∨ (s + 42 ≤ y ∧ y ≤ s + 67) ∨ y < s ∨ s + 21067 < y) (hW : Wk M' s) : Sv M' s n := by
  have hn5 := h.n5
  obtain ⟨V, g, c, e, t, W, T, R, H, hc⟩ := h
  have sg : sameG M M' s := sameG.of f (fun q => by have := hs s q; omega) (fun y a b q => by have := hs y q; omega)
  have fe := f.2.2.2.2.2.2
  refine ⟨V.fi f, sg.gw g, sg.gb c, by rw [sg.1]; exact e, t.out sg (fe _ (fun q => by have := hs _ q; omega)), hW, fun i j hi hj => (T i j hi hj).out f (fun y q => by have := hs y q; unfold cel; omega), fun e he => (R e he).out f (fun y q => by have := hs y q; omega), fun w hw => ?_, fun q => (hc (by rw [← fe (s + 30) (fun q => by have := hs _ q; omega)]; exact q)).out sg (fe _ (fun q => by have := hs _ q; omega))⟩
  obtain ⟨h1, h2⟩ := H w hw
  unfold Hs
  rw [fe _ (fun q => by have := hs _ q; omega)]
  refine ⟨h1, fun q => ?_⟩
  obtain ⟨x, X, v⟩ := h2 q
  exact ⟨x, X.out2 f (fun i y hi q => by have := hs y q; omega), v⟩
theorem fv_top {M : mM} {f r : Nat} (hF : Fq M f r) (h0 : 0 ≤ fv M f) (h1 : fv M f ≤ 1) : wv M (f + 1) ≤ wv M (f + 3) := by
  have a := fv_abs hF h1 (by grind)
  rw [fv_wv hF h0] at a
  exact a.1
theorem p160 : (16777216 : Int) ^ 21 < 10 ^ 160 := by decide
section PR
variable {G : mG} {d s n k w : Nat} {M : mM}
/-- the fraction of state k for w -/
abbrev frc (s k w : Nat) : Nat := s + (68 + 5 * w) + 25 * k
theorem Sv.frac (h : Sv M s n) (hk : k < n) (hw : w < 3) (hh : mI M (s + 30) w ≠ 0) : okF M (frc s k w) ∧ mR M (s + 29) (3 * (k : Int) + (w : Int)).toNat = frc s k w := by
  have hn5 := h.n5
  obtain ⟨V, g, c, e, t, W, T, R, H, hc⟩ := h
  obtain ⟨h1, h2⟩ := H w hw
  obtain ⟨x, X, v⟩ := h2 (by omega)
  obtain ⟨x1, x2, x3⟩ := X k hk
  refine ⟨⟨x1, x2, by rw [x3]; exact (v k hk).1, by rw [x3]; exact (v k hk).2⟩, ?_⟩
  rw [show (3 * (k : Int) + (w : Int)).toNat = 3 * k + w by omega, V.f29 k w (by omega) hw]
  unfold frc
  omega
theorem okF.low {M : mM} {f : Nat} (h : okF M f) : wv M (f + 1) ≤ wv M (f + 3) ∧ mI M (f + 1) 1 ≤ 21 ∧ mI M (f + 3) 1 ≤ 21 ∧ wv M (f + 1) < 10 ^ 160 ∧ wv M (f + 3) < 10 ^ 160 := by
  obtain ⟨h1, h2, h3, h4⟩ := h
  have a := fv_top h1 h4 (smp_b h3).1
  have b := smp_size h1 h2 h3
  have c1 := h1.2.1.lt
  have c2 := h1.2.2.1.lt
  have d1 : (16777216 : Int) ^ (mI M (f + 1) 1).toNat ≤ 16777216 ^ 21 := pow_mono (by omega)
  have d2 : (16777216 : Int) ^ (mI M (f + 3) 1).toNat ≤ 16777216 ^ 21 := pow_mono (by omega)
  have := p160
  exact ⟨a, b.1, b.2, by omega, by omega⟩
theorem s_MS_isThere {l1 l2 : Int} (h1 : i32 l1) (h2 : i32 l2) (hO : mOk M) (h : Sv M s n) : Ci G y_MS_isThere d [vr s, vi l1, vi l2] M (fun r M' => M' = M ∧ (r = 0 ∨ r = 1) ∧ (r ≠ 0 ↔ (0 ≤ l1 ∧ l1 < n ∧ 0 ≤ l2 ∧ l2 ≤ 2 ∧ mI M (s + 30) l2.toNat ≠ 0))) := by
  obtain ⟨V, g, c, e, -⟩ := h
  refine k_MS_isThere hO h1 h2 ?_
  rw [V.r12, V.n30, e]
  refine ⟨fun _ => ⟨V.k0, fun _ _ _ => ⟨V.k30, by omega⟩⟩, fun v hv => ⟨rfl, by split at hv <;> omega, ?_⟩⟩
  by_cases q : l1 < 0 ∨ ((n : Int) ≤ l1 ∨ (l2 < 0 ∨ (2 < l2 ∨ mI M (s + 30) l2.toNat = 0)))
  · rw [if_pos q] at hv
    exact ⟨fun w => absurd hv w, fun w => by omega⟩
  · rw [if_neg q] at hv
    exact ⟨fun _ => by omega, fun _ => by omega⟩
theorem s_MS_compare {j w' : Nat} (hO : mOk M) (h : Sv M s n) (hk : k < n) (hw : w < 3) (hh : mI M (s + 30) w ≠ 0) (hj : j < n) (hw' : w' < 3) (hh' : mI M (s + 30) w' ≠ 0) : Ci G y_MS_compare (d + 3) [vr s, vi k, vi w, vi j, vi w'] M (fun r M' => mOk M' ∧ FI (vH s) M M' ∧ Sv M' s n ∧ -1 ≤ r ∧ r ≤ 1) := by
  have hn5 := h.n5
  obtain ⟨a1, a2⟩ := h.frac hk hw hh
  obtain ⟨b1, b2⟩ := h.frac hj hw' hh'
  have al := a1.low
  have bl := b1.low
  obtain ⟨V, g, c, e, t, W, -⟩ := id h
  refine k_MS_compare hO ⟨by omega, by omega⟩ ⟨by omega, by omega⟩ ⟨by omega, by omega⟩ ⟨by omega, by omega⟩ ?_
  rw [V.r11, V.n29, V.r0, a2, b2]
  refine ⟨V.k0, V.k29, by omega, by omega, W.1.1.1, (s_MU_compare (d := d) hO W.1 a1.1 b1.1 (by unfold suO frc; omega) (by unfold suO frc; omega) (by omega) (by omega)).mono (fun u M1 h1 => ?_)⟩
  obtain ⟨o1, f1, Z1, hu⟩ := h1
  have hu3 : u = -1 ∨ u = 0 ∨ u = 1 := by split at hu <;> (try split at hu) <;> omega
  exact ⟨⟨by omega, by omega⟩, o1, o1, f1.mono (fun y q => by omega), h.out f1 (fun y q => by omega) (W.out f1 Z1 (fun y q => by omega)), by omega, by omega⟩
theorem s_MS_billionths (hO : mOk M) (h : Sv M s n) (hk : k < n) (hw : w < 3) (hh : mI M (s + 30) w ≠ 0) : Ci G y_MS_billionths (d + 4) [vr s, vi k, vi w] M (fun r M' => mOk M' ∧ FI (vH s) M M' ∧ Sv M' s n) := by
  have hn5 := h.n5
  obtain ⟨a1, a2⟩ := h.frac hk hw hh
  have al := a1.low
  obtain ⟨V, g, c, e, t, W, -⟩ := id h
  have hp : 0 < wv M (frc s k w + 3) := a1.1.2.2.2.2
  have hb : wv M (frc s k w + 1) * 1000000000 / wv M (frc s k w + 3) < 2147483648 := by
    refine Int.lt_of_le_of_lt (Int.ediv_le_of_le_mul hp (b := 1000000000) ?_) (by omega)
    have := Int.mul_le_mul_of_nonneg_right al.1 (show (0 : Int) ≤ 1000000000 by omega)
    rw [Int.mul_comm 1000000000]
    exact this
  refine k_MS_billionths hO ⟨by omega, by omega⟩ ⟨by omega, by omega⟩ ?_
  rw [V.r11, V.n29, V.r0, a2]
  refine ⟨V.k0, V.k29, by omega, W.1.1.1, (s_MU_billionths (d := d) hO W.1 a1.1 (by unfold suO frc; omega) (by omega) (by omega) hb).mono (fun u M1 h1 => ?_)⟩
  obtain ⟨o1, f1, Z1, hu⟩ := h1
  have h0 : 0 ≤ u := by rw [hu]; exact Int.ediv_nonneg (Int.mul_nonneg a1.1.2.1.nonneg (by omega)) (by omega)
  exact ⟨⟨by omega, by omega⟩, o1, o1, f1.mono (fun y q => by omega), h.out f1 (fun y q => by omega) (W.out f1 Z1 (fun y q => by omega))⟩
end PR
end
