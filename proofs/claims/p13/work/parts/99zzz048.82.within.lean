/-! The solver: move and within. -/
theorem p480e : (2 : Int) ^ 480 = 16777216 ^ 20 := by decide
def Bt (M : mM) (s n : Nat) (x : Nat → Rat) : Prop := Vk M s ∧ GW M s ∧ GB M s ∧ mI M s 1 = n ∧ Wk M s ∧ Xt M s 88 n x ∧ ∀ k, k < n → Smp 21 (x k) ∧ 0 ≤ x k
abbrev bmS (s : Nat) : Nat → Prop := fun y => wS s y ∨ (s + 62 ≤ y ∧ y ≤ s + 66)
theorem Bt.out {M M' : mM} {s n : Nat} {x : Nat → Rat} (h : Bt M s n x) (f : FI (bmS s) M M') (hW : Wk M' s) : Bt M' s n x := by
  obtain ⟨V, g, c, e, -, X, b⟩ := h
  have G : sameG M M' s := sameG.of f (by omega) (fun y _ _ => by omega)
  exact ⟨V.fi f, G.gw g, G.gb c, by rw [G.1]; exact e, hW, X.out f (fun y q => by omega), b⟩
/-- the best so far -/
def bsI (M : mM) (s : Nat) (M2 : mM) : Prop := mOk M2 ∧ FI (bmS s) M M2 ∧ Wk M2 s ∧ Fq M2 (s + 62) 900 ∧ Fc M2 (s + 62) ∧ 0 ≤ fv M2 (s + 62) ∧ Smp 185 (fv M2 (s + 62))
abbrev nxS (s k : Nat) : Nat → Prop := fun y => bmS s y ∨ fS (s + 83 + 25 * k) y
/-- a fraction that may stay -/
def okF (M : mM) (f : Nat) : Prop := Fq M f 56 ∧ Fc M f ∧ Smp 21 (fv M f) ∧ 0 ≤ fv M f
def mvQ (M : mM) (s k : Nat) (x : Nat → Rat) (r : Int) (M' : mM) : Prop := mOk M' ∧ FI (nxS s k) M M' ∧ Wk M' s ∧ ((r = 0 ∧ FI (bmS s) M M' ∧ ¬ ft9 (bq9 M s k x (mny M s k).toNat)) ∨ (r = 1 ∧ okF M' (s + 83 + 25 * k) ∧ fv M' (s + 83 + 25 * k) = bq9 M s k x (mny M s k).toNat ∧ ft9 (bq9 M s k x (mny M s k).toNat)))
section MV
variable {G : mG} {d s n : Nat} {M : mM} {x : Nat → Rat}
theorem bs_fit {M2 : mM} {y z : Int} (h : bsI M s M2) (h1 : wv M2 (s + 62 + 1) < 2 ^ y.toNat) (h2 : wv M2 (s + 62 + 3) < 2 ^ z.toNat) (hy : y ≤ 480) (hz : z ≤ 480) : mI M2 (s + 62 + 1) 1 ≤ 56 ∧ mI M2 (s + 62 + 3) 1 ≤ 56 ∧ Smp 21 (fv M2 (s + 62)) := by
  obtain ⟨-, -, -, F, C, p, q⟩ := h
  have a1 : (2 : Int) ^ y.toNat ≤ 2 ^ 480 := two_pow_le (by omega)
  have a2 : (2 : Int) ^ z.toNat ≤ 2 ^ 480 := two_pow_le (by omega)
  rw [p480e] at a1 a2
  have b1 := F.2.1.size (k := 20) (Int.lt_of_lt_of_le h1 a1)
  have b2 := F.2.2.1.size (k := 20) (Int.lt_of_lt_of_le h2 a2)
  refine ⟨by omega, by omega, sd M2 (s + 62), sn M2 (s + 62), F.2.2.2.2, ?_, fv_sd F, (smp_b q).1, (smp_b q).2⟩
  exact Int.lt_of_lt_of_le (Int.lt_of_lt_of_le h2 a2) (pow_mono (by omega))
theorem s_MS_move {k : Nat} (hO : mOk M) (hB : Bt M s n x) (hk : k < n) (hR : Rm M s 83) : Ci G y_MS_move (d + 6) [vr s, vi k] M (mvQ M s k x) := by
  have hB0 := hB
  obtain ⟨hV, hG, hC, hn, hW, hX, h01⟩ := hB
  have h2 := hG.2.1
  have h3 := hG.2.2.1
  have hc := hG.cmd (i := k) (by omega)
  have hm0 : 0 ≤ mny M s k ∧ mny M s k ≤ 4200 := by unfold mny; omega
  have h01' : ∀ t, t < n → 0 ≤ x t ∧ x t ≤ 1 := fun t ht => ⟨(h01 t ht).2, (smp_b (h01 t ht).1).1⟩
  have hxs : ∀ t, t < n → Smp 21 (x t) := fun t ht => (h01 t ht).1
  refine k_MS_move hO ⟨by omega, by omega⟩ ?_
  rw [hV.r4, hV.n22, hV.r30]
  refine ⟨hV.k0, hV.k22, by omega, fun v hv => ⟨hW.2.2.2.2.2.1.1, (s_MF_set ⟨by split at hv <;> omega, by split at hv <;> omega⟩ (by split at hv <;> omega) ⟨by omega, by omega⟩ (by omega) hO hW.2.2.2.2.2 (by omega)).mono (fun M1 h1 => ?_)⟩⟩
  obtain ⟨o1, f1, F1, y1, y2, y3⟩ := h1
  have hv01 : v = 0 ∨ v = 1 := by split at hv <;> omega
  have C1 := fc_one F1 y2 (fun q => y3 (by omega))
  have e1 : fv M1 (s + 62) = 0 ∨ fv M1 (s + 62) = 1 := by
    rw [fv_set y1 y2]
    have z0 : ((0 : Int) : Rat) = 0 := rfl
    have z1 : ((1 : Int) : Rat) = 1 := rfl
    rcases hv01 with z | z
    · left; rw [z, z0]; grind
    · right; rw [z, z1]; grind
  have b0 : fv M1 (s + 62) = bq9 M s k x 0 := by
    have z0 : ((0 : Int) : Rat) = 0 := rfl
    have z1 : ((1 : Int) : Rat) = 1 := rfl
    show fv M1 (s + 62) = (if mI M (s + 22) k = 3 then (1 : Rat) else 0)
    rw [fv_set y1 y2, hv]
    split
    · rw [z1]; grind
    · rw [z0, z1]; grind
  refine ⟨o1, ?_⟩
  suffices H : ∀ (c i : Nat) (M2 : mM), i + c = (mny M s k).toNat → bsI M s M2 → fv M2 (s + 62) = bq9 M s k x i → h_MS_move_25 G (d + 5) s k i M2 (mvQ M s k x) by
    refine H (mny M s k).toNat 0 M1 (by omega) ⟨o1, f1.mono (fun y q => by have : s + 62 ≤ y ∧ y ≤ s + 62 + 4 := q; omega), hW.put f1 F1.ft (by omega), F1, C1, ?_, ?_⟩ b0
    · rcases e1 with z | z <;> rw [z] <;> decide
    · rcases e1 with z | z <;> rw [z]
      · exact ⟨1, 0, by omega, by decide, by grind, by grind, by grind⟩
      · exact ⟨1, 1, by omega, by decide, by grind, by grind, by grind⟩
  clear b0 e1 C1 y3 y2 y1 F1 f1 o1 M1
  intro c
  induction c with
  | zero =>
    intro i M2 hi h hb
    obtain ⟨o2, f2, W2, F2, C2, p2, q2⟩ := id h
    obtain ⟨V2, G2, -, n2, -⟩ := hB0.out f2 W2
    have sg : sameG M M2 s := sameG.of f2 (by omega) (fun y _ _ => by omega)
    have ei : i = (mny M s k).toNat := by omega
    rw [ei] at hb
    have h141 : ¬ ft9 (fv M2 (s + 62)) → h_MS_move_141 G (d + 5) s k 0 M2 (mvQ M s k x) := fun nf =>
      k_MS_move_141 o2 ⟨by omega, by omega⟩ ⟨by omega, by omega⟩ ⟨fun _ => ⟨Or.inl rfl, o2, f2.mono (fun y q => Or.inl q), W2, Or.inl ⟨rfl, f2, by rw [← hb]; exact nf⟩⟩, fun q => absurd rfl q⟩
    refine k_MS_move_25 o2 ⟨by omega, by omega⟩ ⟨by omega, by omega⟩ ⟨V2.k0, (s_MS_many o2 V2 G2 (by omega)).mono (fun y M3 h3' => ?_)⟩
    obtain ⟨e3, hy⟩ := h3'
    subst e3
    rw [sg.hm] at hy
    rw [V2.r30, F2.1.2.1]
    refine ⟨⟨by omega, by omega⟩, o2, fun _ => ⟨V2.k0, F2.1.1, F2.2.1.1.1, (s_MW_places o2 F2.2.1).mono (fun u M4 h4 => ?_)⟩, fun q => by omega⟩
    obtain ⟨e4, u1, u2, u3, u4⟩ := h4
    subst e4
    rw [V2.r30, F2.1.2.2]
    refine ⟨⟨by omega, by omega⟩, o2, fun hu => h141 (nftv F2 C2 p2 (Or.inl (Int.le_trans (two_pow_le (by omega)) (u4 (by omega))))), fun hu => ⟨V2.k0, F2.1.1, F2.2.2.1.1.1, (s_MW_places o2 F2.2.2.1).mono (fun z M5 h5 => ?_)⟩⟩
    obtain ⟨e5, z1, z2, z3, z4⟩ := h5
    subst e5
    refine ⟨⟨by omega, by omega⟩, o2, fun hz => h141 (nftv F2 C2 p2 (Or.inr (Int.le_trans (two_pow_le (by omega)) (z4 (by omega))))), fun hz => ?_⟩
    have fit := ftv F2 p2 (Int.lt_of_lt_of_le u3 (two_pow_le (by omega))) (Int.lt_of_lt_of_le z3 (two_pow_le (by omega)))
    rw [hb] at fit
    have hfit := bs_fit h u3 z3 (by omega) (by omega)
    have rk : Ft M5 (s + 83 + 25 * k) 56 := (hR k (by omega)).out f2 (fun y q => by omega)
    refine k_MS_move_141 o2 ⟨by omega, by omega⟩ ⟨by omega, by omega⟩ ⟨fun q => by omega, fun _ => ?_⟩
    rw [V2.r13, V2.n31, V2.r30, Int.toNat_natCast, V2.f31 k (by omega)]
    refine ⟨V2.k0, V2.k31, by omega, rk.1.1, (s_MF_copy o2 rk F2 (by omega) hfit.1 hfit.2.1).mono (fun M6 h6 => ?_)⟩
    obtain ⟨o6, f6, F6, w4, w5, w6⟩ := h6
    have C6 := fc_copy C2 w4 w5 w6
    exact ⟨o6, Or.inr rfl, o6, (f2.mono (fun y q => Or.inl q)).trans (f6.mono (fun y q => Or.inr q)), W2.far f6 (fun y q => by have : s + 83 + 25 * k ≤ y ∧ y ≤ s + 83 + 25 * k + 4 := q; omega), Or.inr ⟨rfl, ⟨F6, C6.1, by rw [C6.2]; exact hfit.2.2, by rw [C6.2]; exact p2⟩, by rw [C6.2]; exact hb, fit⟩⟩
  | succ c ih =>
    intro i M2 hi h hb
    obtain ⟨o2, f2, W2, F2, C2, p2, q2⟩ := id h
    have B2 := hB0.out f2 W2
    obtain ⟨V2, G2, C2', n2, -, X2, -⟩ := id B2
    have sg : sameG M M2 s := sameG.of f2 (by omega) (fun y _ _ => by omega)
    have him : (i : Int) < mny M2 s k := by rw [sg.hm]; omega
    refine k_MS_move_25 o2 ⟨by omega, by omega⟩ ⟨by omega, by omega⟩ ⟨V2.k0, (s_MS_many o2 V2 G2 (by omega)).mono (fun y M3 h3' => ?_)⟩
    obtain ⟨e3, hy⟩ := h3'
    subst e3
    rw [sg.hm] at hy
    rw [V2.r21]
    refine ⟨⟨by omega, by omega⟩, o2, fun q => by omega, fun _ => ⟨V2.k0, (s_worthG (d := d) (n := n) (p := 21) (by omega) hxs (Or.inl ⟨rfl, rfl, rfl⟩) o2 V2 G2 C2' n2 (by omega) him W2 X2 h01').mono (fun M4 h4 => ?_)⟩⟩
    obtain ⟨o4, f4, W4, F4, C4, v4, s4⟩ := h4
    have V4 := V2.fi f4
    have hcx := cx_lt G2 (k := k) (i := i) (by omega) him
    have hw0 : 0 ≤ cw M3 s (cx M3 s k i) x := by
      have a := cw_le C2' hcx (f := fun _ => 0) (g := x) (fun b hb => (h01' _ (by have := tg_lt G2 hcx hb; omega)).1)
      rw [cw_const C2' hcx] at a
      exact a
    have b4 := F2.out f4 (fun y q => by omega)
    have c4 := C2.out F2 f4 (fun y q => by omega)
    have e4 := fv_out F2 f4 (fun y q => by omega)
    have sz1 := smp_size F4 C4 (k := 185) (by rw [v4]; exact s4)
    have sz2 := smp_size b4.1 c4 (k := 185) (by rw [e4]; exact q2)
    rw [V4.r0, V4.r28, V4.r30]
    refine ⟨o4, V4.k0, W4.1.1.1, (s_MU_compare (d := d + 3) o4 W4.1 F4 b4.1 (by unfold suO; omega) (by unfold suO; omega) (by omega) (by omega)).mono (fun u M5 h5 => ?_)⟩
    obtain ⟨o5, f5, Z5, hcv⟩ := h5
    have hc3 : u = -1 ∨ u = 0 ∨ u = 1 := by split at hcv <;> (try split at hcv) <;> omega
    have V5 := V4.fi f5
    have W5 : Wk M5 s := W4.out f5 Z5 (fun y q => by omega)
    have b5 := b4.1.out f5 (fun y q => by omega)
    have c5 := c4.out b4.1 f5 (fun y q => by omega)
    have e5 := fv_out b4.1 f5 (fun y q => by omega)
    have F5 := F4.out f5 (fun y q => by omega)
    have C5 := C4.out F4 f5 (fun y q => by omega)
    have v5 := fv_out F4 f5 (fun y q => by omega)
    have f25 : FI (bmS s) M M5 := (f2.trans (f4.mono (fun y q => Or.inl q))).trans (f5.mono (fun y q => by omega))
    have eW : fv M4 (s + 52) = cw M s (cx M s k i) x := by rw [v4, sg.hw, sg.hx]
    have eB : fv M4 (s + 62) = bq9 M s k x i := by rw [e4]; exact hb
    have cu := cmp_u F4 b4.1 (by rw [v4]; exact hw0) (by rw [e4]; exact p2) hcv
    rw [eW, eB] at cu
    have hI5 : bsI M s M5 := ⟨o5, f25, W5, b5.1, c5, by rw [e5, e4]; exact p2, by rw [e5, e4]; exact q2⟩
    have hnext : ∀ M6, bsI M s M6 → fv M6 (s + 62) = bq9 M s k x (i + 1) → h_MS_move_98 G (d + 5) s k i M6 (mvQ M s k x) := fun M6 h6 hb6 =>
      k_MS_move_98 h6.1 ⟨by omega, by omega⟩ ⟨by omega, by omega⟩ (ih (i + 1) M6 (by omega) h6 hb6)
    have sz3 := smp_size F5.1 C5 (k := 185) (by rw [v5, v4]; exact s4)
    have hcopy : bq9 M s k x (i + 1) = cw M s (cx M s k i) x → Cv G y_MF_copy (d + 5) [vr (s + 62), vr (s + 52)] M5 (fun M6 => mOk M6 ∧ h_MS_move_98 G (d + 5) s k i M6 (mvQ M s k x)) := by
      intro eq
      refine (s_MF_copy o5 W5.2.2.2.2.2 F5.1 (by omega) (by omega) (by omega)).mono (fun M6 h6 => ?_)
      obtain ⟨o6, f6, F6, w4, w5, w6⟩ := h6
      have C6 := fc_copy C5 w4 w5 w6
      exact ⟨o6, hnext M6 ⟨o6, f25.trans (f6.mono (fun y q => by have : s + 62 ≤ y ∧ y ≤ s + 62 + 4 := q; omega)), W5.put f6 F6.ft (by omega), F6, C6.1, by rw [C6.2, v5, v4]; exact hw0, by rw [C6.2, v5, v4]; exact s4⟩ (by rw [C6.2, v5, eW, eq])⟩
    have e22 : mI M5 (s + 22) = mI M (s + 22) := f25.2.2.2.2.2.2 _ (by omega)
    have keep : fv M5 (s + 62) = bq9 M s k x i := by rw [e5]; exact eB
    rw [V5.r30, V5.r28, V5.r4, V5.n22, e22, Int.toNat_natCast]
    refine ⟨⟨by omega, by omega⟩, o5, fun i0 => ⟨V5.k0, b5.1.1.1, hcopy ?_⟩, fun i0 => ⟨V5.k0, V5.k22, by omega, fun kd => ⟨fun u0 => hnext M5 hI5 ?_, fun u0 => ⟨b5.1.1.1, hcopy ?_⟩⟩, fun kd => ⟨fun u0 => hnext M5 hI5 ?_, fun u0 => ⟨b5.1.1.1, hcopy ?_⟩⟩⟩⟩
    · have z0 : i = 0 := by omega
      rw [z0]
      all_goals rfl
    · rw [bq_s (by omega), if_neg, keep]
      intro y
      rcases y with y | y
      · have := cu.1.2 y.2
        omega
      · exact y.1 kd
    · rw [bq_s (by omega), if_pos]
      exact Or.inl ⟨kd, cu.1.1 (by omega)⟩
    · rw [bq_s (by omega), if_neg, keep]
      intro y
      rcases y with y | y
      · exact kd y.1
      · have := cu.2.2 y.2
        omega
    · rw [bq_s (by omega), if_pos]
      exact Or.inr ⟨kd, cu.2.1 (by omega)⟩
end MV
