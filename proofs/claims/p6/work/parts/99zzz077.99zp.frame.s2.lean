section
/-! The reference: a variable item, its range. -/
section VI3
variable {G : mG} {d a g R W C Z T T2 T3 N K : Nat} {M M2 M3 : mM} {E : Nat → Nat} {tg bl : Int}
theorem vst_ge {i : Nat} {v : Int} (h : Lc M2 a g N T2 K) (hv : i32 v) (hi : 18 ≤ i ∧ i ≤ 21) (f1 : frO (13 + i)) (f2 : frO (49 + i)) (e : M3 = mUI M2 (g + i) W v) : Ge M2 g R W C Z T2 M3 := by
  obtain ⟨L3, I3, ⟨g3, a3⟩, m3, f3, l3⟩ := gsti h hv (by omega) f1 f2 (fun z => by omega) e
  exact ge_st h.2.2.2.2.2.1 m3 f3 l3 (by omega) (fun _ _ => Nat.le_refl W) (by omega) (by omega)
theorem vI.new (h : Df M a g N T K R W C Z E tg) (hb : bl = 0 ∨ bl = 1) (e : M2 = mUI M (g + 18) W bl) : vI M a g N T K R W C Z bl T M2 ∧ mI M2 a = mI M a := by
  have ib : i32 bl := i32s (by omega) (by omega)
  have hg := h.1.2.2.2.2.2.1
  have G2 := vst_ge (R := R) (C := C) (Z := Z) (i := 18) h.1 ib (by omega) (by decide) (by decide) e
  obtain ⟨L3, I3, ⟨g3, a3⟩, m3, f3, l3⟩ := gsti (i := 18) h.1 ib (by omega) (by decide) (by decide) (fun z => by omega) e
  exact ⟨⟨L3, I3, g3, ⟨(m3.lst (n30 hg) (fun z => z)).1, (m3.lst (n32 hg) (fun z => z)).1, (m3.lst (n34 hg) (fun z => z)).1⟩, by rw [f3, if_pos ⟨rfl, rfl⟩], Nat.le_refl _, G2⟩, a3⟩
theorem iF.wk (h : iF M a g M2) (hg : g = a + 13 ∨ g = a + 49) : wk M2 a = wk M a := by
  funext k
  exact (h.1.lst n5 (fun z => by have := z.2; omega)).2.1 k
/-- the root of a rule made of constants -/
theorem rl_cte {t : Int} (hL : Lc M2 a g N T2 K) (g6 : mI M2 g 6 = R) (hR : R ≤ 60) (h : rlR 1 M2 a g N T2 K T3 t M3) (z : mI M3 a 16 = 0) : Cte M3 g R W T3 T2 t := by
  have G3 := (rlR.ge (R := R) (W := W) (C := 0) (Z := 0) hL h).2.1 z
  rcases h.2.2.2.2.2 with y | ⟨-, ⟨f, ty⟩, -⟩
  · exact absurd z y
  · refine ⟨f, T3, ty.mono (fun v hv => ?_), Nat.le_refl _⟩
    unfold nmr at hv
    rw [g6] at hv
    rcases hv with ⟨h1, h2, h3, h4⟩ | ⟨h1, -⟩
    · have gt := G3.1.tr (r := v.toNat) hR (by omega)
      rw [show ((v.toNat : Nat) : Int) = v by omega] at gt
      refine ⟨Or.inl ⟨h1, h2, Or.inr ?_⟩, gt⟩
      rw [(G3.1.2.1 v.toNat (by omega)).1]
      exact h4 (by decide)
    · exact absurd h1 (by decide)
/-- a fault has been told: the item is left -/
theorem s_vi215x {e : Nat} {l1 l3 l4 l5 l6 l7 l8 l9 k0 : Int} (L2 : Lc M2 a g N T2 K) (I2 : iF M a g M2) (z : mI M2 a 16 ≠ 0) (i1 : i32 l1) (i3 : i32 l3) (i4 : i32 l4) (i5 : i32 l5) (i6 : i32 l6) (i7 : i32 l7) (i8 : i32 l8) (i9 : i32 l9) (i0 : i32 k0) : h_MM_varItem_215 G (d + 7) a l1 l3 l4 l5 l6 l7 l8 l9 k0 M2 (fun M' => mOk M' ∧ itQ M a g N e M') :=
  k_MM_varItem_215w L2.1 i1 i3 i4 i5 i6 i7 i8 i9 i0 ⟨L2.2.1.1.1.1.1, fun y => absurd y z, fun _ => ⟨L2.1, I2, Or.inl z⟩⟩
theorem s_vi185x {e : Nat} {l1 l2 l3 l4 l5 l6 l7 l9 k0 : Int} (L2 : Lc M2 a g N T2 K) (I2 : iF M a g M2) (z : mI M2 a 16 ≠ 0) (i1 : i32 l1) (i2 : i32 l2) (i3 : i32 l3) (i4 : i32 l4) (i5 : i32 l5) (i6 : i32 l6) (i7 : i32 l7) (i9 : i32 l9) (i0 : i32 k0) : h_MM_varItem_185 G (d + 7) a l1 l2 l3 l4 l5 l6 l7 l9 k0 M2 (fun M' => mOk M' ∧ itQ M a g N e M') :=
  k_MM_varItem_185 L2.1 i1 i2 i3 i4 i5 i6 i7 i9 i0 ⟨fun _ => L2.2.1.1.1.1.1, fun _ => s_vi215x L2 I2 z i1 i3 i4 i5 i6 i7 i0 i9 ⟨by decide, by decide⟩, fun q => absurd (Or.inr z) q⟩
/-- a truth -/
theorem s_vi215b {k e i : Nat} {l6 l10 : Int} (h : Df M a g N T K R W C Z E tg) (hW : W < 12) (hk : k + 3 < N) (hi : i < N) (hi1 : l6 ≠ 0 → i + 1 < N) (v2 : vI M a g N T K R W C Z 1 T2 M2) (hTe : T2 ≤ e) (hZe : Z ≤ e) (hT16 : T2 ≤ 16384) (il6 : i32 l6) (il10 : i32 l10) (z16 : mI M2 a 16 = 0) (hf : l6 ≠ 0 → ∃ n : Nat, l10 = n ∧ Cte M2 g R W T2 n 1) : h_MM_varItem_215 G (d + 7) a k W 1 i l6 (-1) (-1) ((k : Int) + 3) l10 M2 (fun M' => mOk M' ∧ itQ M a g N e M') := by
  have hN := h.1.2.1.1.2.2
  have hg := h.1.2.2.2.2.2.1
  have hR := h.2.2.2.2.1.1
  have L2 := v2.1
  have w2 := L2.2.1.1.1
  have ik : i32 (k : Int) := i32s (by omega) (by omega)
  have iW : i32 (W : Int) := i32s (by omega) (by omega)
  have ii : i32 (i : Int) := i32s (by omega) (by omega)
  have ik3 : i32 ((k : Int) + 3) := i32s (by omega) (by omega)
  have W12 : ((0 : Int) ≤ W ∧ (W : Int) < ((12 : Nat) : Int)) := by omega
  refine k_MM_varItem_215w L2.1 ik iW ⟨by decide, by decide⟩ ii il6 ⟨by decide, by decide⟩ ⟨by decide, by decide⟩ ik3 il10 ⟨w2.1.1, fun _ => ⟨fun y => absurd y (by decide), fun _ => ?_⟩, fun y => absurd z16 y⟩
  rw [show mR M2 a 10 = g from L2.2.2.2.2.1, show mR M2 g 14 = g + 19 from (w2.gp hg).2.2.1.2.1, Int.toNat_natCast]
  refine ⟨(w2.gp hg).1, (w2.gp hg).2.2.2.2.1.2.1.1, by rw [(w2.gp hg).2.2.2.2.1.2.1.2]; exact W12, fun M3 e3 => ?_⟩
  have G3 := vst_ge (R := R) (C := C) (Z := Z) (i := 19) (v := 0) L2 ⟨by decide, by decide⟩ (by omega) (by decide) (by decide) e3
  obtain ⟨v3, f3, a3⟩ := v2.st (i := 19) (v := 0) ⟨by decide, by decide⟩ (by omega) (by decide) (by decide) e3
  have L3 := v3.1
  have w3 := L3.2.1.1.1
  rw [show mR M3 a 10 = g from L3.2.2.2.2.1, show mR M3 g 15 = g + 20 from (w3.gp hg).2.2.1.2.2.1]
  refine ⟨(w3.gp hg).1, (w3.gp hg).2.2.2.2.1.2.2.1.1, by rw [(w3.gp hg).2.2.2.2.1.2.2.1.2]; exact W12, fun M4 e4 => ?_⟩
  have G4 := vst_ge (R := R) (C := C) (Z := Z) (i := 20) (v := 1) L3 ⟨by decide, by decide⟩ (by omega) (by decide) (by decide) e4
  obtain ⟨v4, f4, a4⟩ := v3.st (i := 20) (v := 1) ⟨by decide, by decide⟩ (by omega) (by decide) (by decide) e4
  have G24 := G3.trans G4
  refine s_vi369 h hW (by omega) hi hi1 v4 hTe hZe hT16 il6 il10 (Or.inr rfl) (fun _ => ?_) (fun q => ?_)
  · have c19 : mI M4 (g + 19) W = 0 := by rw [f4, if_neg (fun z => by omega), f3, if_pos ⟨rfl, rfl⟩]
    have c20 : mI M4 (g + 20) W = 1 := by rw [f4, if_pos ⟨rfl, rfl⟩]
    rw [c19, c20]
    exact ⟨fun _ => ⟨rfl, rfl⟩, by decide, by decide, by decide⟩
  · obtain ⟨n, hn, ct⟩ := hf q
    exact ⟨n, hn, ct.gn G24.1 hR⟩
/-- a number -/
theorem s_vi215n {k e i j lo hi : Nat} {l6 l10 : Int} (h : Df M a g N T K R W C Z E tg) (hW : W < 12) (hk : k + 3 < N) (hi' : i < N) (hi1 : l6 ≠ 0 → i + 1 < N) (hj : j + 1 < N) (v2 : vI M a g N T K R W C Z 0 T2 M2) (hTe : T2 ≤ e) (hZe : Z ≤ e) (hT16 : T2 ≤ 16384) (il6 : i32 l6) (il10 : i32 l10) (z16 : mI M2 a 16 = 0) (cl : Cte M2 g R W T2 lo 0) (ch : Cte M2 g R W T2 hi 0) (hf : l6 ≠ 0 → ∃ n : Nat, l10 = n ∧ Cte M2 g R W T2 n 0) : h_MM_varItem_215 G (d + 7) a k W 0 i l6 lo hi j l10 M2 (fun M' => mOk M' ∧ itQ M a g N e M') := by
  have hN := h.1.2.1.1.2.2
  have hg := h.1.2.2.2.2.2.1
  have hR := h.2.2.2.2.1.1
  have L2 := v2.1
  have w2 := L2.2.1.1.1
  have ik : i32 (k : Int) := i32s (by omega) (by omega)
  have iW : i32 (W : Int) := i32s (by omega) (by omega)
  have ii : i32 (i : Int) := i32s (by omega) (by omega)
  have ij : i32 (j : Int) := i32s (by omega) (by omega)
  have ilo : i32 (lo : Int) := by
    obtain ⟨f, e', t, t'⟩ := cl
    have := t.tn.lt
    exact i32s (by omega) (by omega)
  have ihi : i32 (hi : Int) := by
    obtain ⟨f, e', t, t'⟩ := ch
    have := t.tn.lt
    exact i32s (by omega) (by omega)
  have W12 : ((0 : Int) ≤ W ∧ (W : Int) < ((12 : Nat) : Int)) := by omega
  refine k_MM_varItem_215w L2.1 ik iW ⟨by decide, by decide⟩ ii il6 ilo ihi ij il10 ⟨w2.1.1, fun _ => ⟨fun _ => ?_, fun y => absurd rfl y⟩, fun y => absurd z16 y⟩
  rw [show mR M2 a 10 = g from L2.2.2.2.2.1, show mR M2 g 14 = g + 19 from (w2.gp hg).2.2.1.2.1, Int.toNat_natCast, show (k : Int) + 3 = ((k + 3 : Nat) : Int) by omega]
  refine ⟨(w2.gp hg).1, (s_MM_wholeOf (d := d + 2) L2 (v2.ev h.2.2.2.2 hT16) cl hk).mono (fun x1 M3 t3 => ?_)⟩
  obtain ⟨ix1, o3, E3, r3⟩ := t3
  have v3 := v2.eo E3
  have G3 := (E3.lc (R := R) (W := W) (C := C) (Z := Z) L2).2.2.1
  have w3 := v3.1.2.1.1.1
  refine ⟨ix1, o3, (w3.gp hg).2.2.2.2.1.2.1.1, by rw [(w3.gp hg).2.2.2.2.1.2.1.2]; exact W12, fun M4 e4 => ?_⟩
  have G4 := vst_ge (R := R) (C := C) (Z := Z) (i := 19) v3.1 ix1 (by omega) (by decide) (by decide) e4
  obtain ⟨v4, f4, a4⟩ := v3.st (i := 19) ix1 (by omega) (by decide) (by decide) e4
  have L4 := v4.1
  have w4 := L4.2.1.1.1
  have G24 := G3.trans G4
  have c4 : mI M4 (g + 19) W = x1 := by rw [f4, if_pos ⟨rfl, rfl⟩]
  have z4 : mI M4 a 16 = mI M3 a 16 := by rw [a4]
  clear f4 a4 e4
  rw [show mR M4 a 10 = g from L4.2.2.2.2.1, show mR M4 g 15 = g + 20 from (w4.gp hg).2.2.1.2.2.1, show (j : Int) + 1 = ((j + 1 : Nat) : Int) by omega]
  refine ⟨w4.1.1, (w4.gp hg).1, (s_MM_wholeOf (d := d + 2) L4 (v4.ev h.2.2.2.2 hT16) (ch.gn G24.1 hR) hj).mono (fun x2 M5 t5 => ?_)⟩
  obtain ⟨ix2, o5, E5, r5⟩ := t5
  have v5 := v4.eo E5
  have G5 := (E5.lc (R := R) (W := W) (C := C) (Z := Z) L4).2.2.1
  have w5 := v5.1.2.1.1.1
  refine ⟨ix2, o5, (w5.gp hg).2.2.2.2.1.2.2.1.1, by rw [(w5.gp hg).2.2.2.2.1.2.2.1.2]; exact W12, fun M6 e6 => ?_⟩
  have G6 := vst_ge (R := R) (C := C) (Z := Z) (i := 20) v5.1 ix2 (by omega) (by decide) (by decide) e6
  obtain ⟨v6, f6, a6⟩ := v5.st (i := 20) ix2 (by omega) (by decide) (by decide) e6
  have L6 := v6.1
  have w6 := L6.2.1.1.1
  have G26 := (G24.trans G5).trans G6
  have hin : ∀ q, q = a + 99 → q ∈ nums a := fun q hq => by rw [hq]; exact n99
  have c19 : mI M6 (g + 19) W = x1 := by
    rw [f6, if_neg (fun z => by omega), (E5.1.cellL w4 hin (goffx (i := 19) hg (by decide) (by decide)) (fun z => by
      have : g + 19 = a ∨ g + 19 = a + 97 ∨ g + 19 = a + 98 ∨ g + 19 = a + 102 ∨ g + 19 = a + 103 ∨ g + 19 = a + 104 := z
      omega)).1, c4]
  have c20 : mI M6 (g + 20) W = x2 := by rw [f6, if_pos ⟨rfl, rfl⟩]
  have z6 : mI M6 a 16 = 0 → (-1000000000 < x1 ∧ x1 < 1000000000) ∧ -1000000000 < x2 ∧ x2 < 1000000000 := fun z => by
    rw [a6] at z
    obtain ⟨y1, y2⟩ := r5 z
    rw [z4] at y1
    exact ⟨(r3 y1).2, y2⟩
  clear f6 a6 e6 r3 r5
  rw [show mR M6 a 10 = g from L6.2.2.2.2.1, show mR M6 g 14 = g + 19 from (w6.gp hg).2.2.1.2.1, show mR M6 g 15 = g + 20 from (w6.gp hg).2.2.1.2.2.1, c19, c20]
  have b14 : ((0 : Int) ≤ W ∧ (W : Int) < (mN M6 (g + 19) : Int)) := by rw [(w6.gp hg).2.2.2.2.1.2.1.2]; exact W12
  have b15 : ((0 : Int) ≤ W ∧ (W : Int) < (mN M6 (g + 20) : Int)) := by rw [(w6.gp hg).2.2.2.2.1.2.2.1.2]; exact W12
  have hf6 : l6 ≠ 0 → ∃ n : Nat, l10 = n ∧ Cte M6 g R W T2 n 0 := fun q => by
    obtain ⟨n, hn, ct⟩ := hf q
    exact ⟨n, hn, ct.gn G26.1 hR⟩
  refine ⟨w6.1.1, (w6.gp hg).1, (w6.gp hg).2.2.2.2.1.2.1.1, b14, (w6.gp hg).2.2.2.2.1.2.2.1.1, b15, fun _ => ⟨b15, b14, trivial⟩, fun v hv => ⟨fun q => ?_, fun q => ?_⟩⟩
  · refine (s_MM_place0 (d := d + 6) L6.1 L6.2.1 hj).mono (fun y M7 h7 => ?_)
    obtain ⟨e7, hy⟩ := h7
    subst e7
    have hy32 : i32 y := by rw [hy]; exact (L6.1 _ _).1
    refine ⟨hy32, L6.1, w6.1.1, (s_MM_stop ⟨by decide, by decide⟩ hy32 L6.1 w6).mono (fun M8 h8 => ?_)⟩
    have v8 := v6.sp h8
    have G8 := (v6.1.sp (R := R) (W := W) (C := C) (Z := Z) h8.1 (fun _ z => z) (fun _ z => z)).2.2.1
    refine ⟨h8.1.1, s_vi369 h hW (by omega) hi' hi1 v8 hTe hZe hT16 il6 il10 (Or.inl rfl) (fun z => ?_) (fun q => ?_)⟩
    · rw [h8.2.1] at z; exact absurd z (by decide)
    · obtain ⟨n, hn, ct⟩ := hf6 q
      exact ⟨n, hn, ct.gn G8.1 hR⟩
  · refine s_vi369 h hW (by omega) hi' hi1 v6 hTe hZe hT16 il6 il10 (Or.inl rfl) (fun z => ?_) hf6
    have z6 := z6 z
    rw [c19, c20]
    have vn : v ≠ 0 := fun y => q ⟨z, y⟩
    clear hf hf6 q
    refine ⟨fun y => absurd rfl y, ?_, z6.1.1, z6.2.2⟩
    split at hv
    · exact absurd hv vn
    · omega
end VI3
end
section
/-! The reference: varItem. -/
section VI4
variable {G : mG} {d a g R W C Z T T2 N K : Nat} {M M2 : mM} {E : Nat → Nat} {tg : Int}
theorem Lc.ub {i j : Nat} {s : Int} {Q : Int → mM → Prop} (h : Lc M a g N T K) (hij : i ≤ j) (hb : Bl (wk M a) i (j - i)) (hj : j < N) (h1 : wk M a j = s) (hs : s = 16 ∨ s = 17 ∨ s = 33) (hQ : Q j M) : Ci G y_MM_until (d + 2) [vr a, vi i, vi s] M Q := by
  refine (s_until_bl (d := d) h.1 h.2.1.1 hij hb hj h1 hs).mono (fun x M1 e1 => ?_)
  obtain ⟨e1, hx⟩ := e1
  subst e1
  rw [hx]
  exact hQ
theorem Lc.io {p i e : Nat} {Q : Int → mM → Prop} (h : Lc M a g N T K) (h1 : p ≤ i) (h2 : i ≤ e) (he : e < N) (hn : ∀ m, p ≤ m → m < i → wk M a m ≠ 9) (hi : i = e ∨ wk M a i = 9) (hQ : Q i M) : Ci G y_MM_initOf (d + 2) [vr a, vi p, vi e] M Q := by
  refine (s_MM_initOf (d := d) h h1 h2 he hn hi).mono (fun x M1 e1 => ?_)
  obtain ⟨e1, hx⟩ := e1
  subst e1
  rw [hx]
  exact hQ
theorem vI.g6 {bl : Int} (v : vI M a g N T K R W C Z bl T2 M2) (h : Df M a g N T K R W C Z E tg) : mI M2 g 6 = R := by rw [v.2.2.1]; exact h.2.1.1
theorem s_vi185 {k e i j lo hi : Nat} {l6 : Int} (h : Df M a g N T K R W C Z E tg) (hW : W < 12) (hk : k + 3 < N) (hie : i ≤ e) (heN : e < N) (hj : j + 1 < N) (hki : k ≤ i) (hZ : Z ≤ k) (v2 : vI M a g N T K R W C Z 0 T2 M2) (hT2 : T2 ≤ i) (c6 : l6 = 0 ∨ l6 = 1) (z16 : mI M2 a 16 = 0) (cl : Cte M2 g R W T2 lo 0) (ch : Cte M2 g R W T2 hi 0) (h9 : l6 ≠ 0 → Eo (wk M a) 6 (i + 1) e) : h_MM_varItem_185 G (d + 7) a k e W 0 i l6 lo j hi M2 (fun M' => mOk M' ∧ itQ M a g N (e + 1) M') := by
  have hN := h.1.2.1.1.2.2
  have hg := h.1.2.2.2.2.2.1
  have hR := h.2.2.2.2.1.1
  have L2 := v2.1
  have w2 := L2.2.1.1.1
  have iz : i32 (0 : Int) := ⟨by decide, by decide⟩
  have im : i32 (-1 : Int) := ⟨by decide, by decide⟩
  have ik : i32 (k : Int) := i32s (by omega) (by omega)
  have iW : i32 (W : Int) := i32s (by omega) (by omega)
  have ii : i32 (i : Int) := i32s (by omega) (by omega)
  have ij : i32 (j : Int) := i32s (by omega) (by omega)
  have ie : i32 (e : Int) := i32s (by omega) (by omega)
  have i6 : i32 l6 := i32s (by omega) (by omega)
  have ilo : i32 (lo : Int) := by
    obtain ⟨f, e', t, t'⟩ := cl
    have := t.tn.lt
    exact i32s (by omega) (by omega)
  have ihi : i32 (hi : Int) := by
    obtain ⟨f, e', t, t'⟩ := ch
    have := t.tn.lt
    exact i32s (by omega) (by omega)
  have hiN : i < N := by omega
  refine k_MM_varItem_185 L2.1 ik ie iW iz ii i6 ilo ij ihi ⟨fun _ => w2.1.1, fun q => ?_, fun q => ⟨w2.1.1, ?_⟩⟩
  · have z6 : l6 = 0 := q.elim (fun z => z) (fun z => absurd z16 z)
    exact s_vi215n h hW hk hiN (fun z => absurd z6 z) hj v2 (by omega) (by omega) (by omega) i6 im z16 cl ch (fun z => absurd z6 z)
  · have n6 : l6 ≠ 0 := fun z => q (Or.inl z)
    have eo := h9 n6
    have hlt := eo.pr.1
    have wkE := v2.2.1.wk hg
    rw [show (i : Int) + 1 = ((i + 1 : Nat) : Int) by omega]
    refine (s_MM_rule1 (d := d) (co := 1) (tr := 0) ⟨by decide, by decide⟩ (Or.inl rfl) L2 (by omega) (by rw [wkE]; exact eo) heN).mono (fun x M3 q3 => ?_)
    obtain ⟨ex, T3, t1, t2, Rl⟩ := q3
    subst ex
    have L3 := Rl.2.1
    refine ⟨i32s (by omega) (by omega), L3.1, ?_⟩
    by_cases z3 : mI M3 a 16 = 0
    · have v3 := v2.rl (Nat.le_of_lt t1) Rl z3
      have G3 := (rlR.ge (R := R) (W := W) (C := C) (Z := Z) L2 Rl).2.1 z3
      have hT := Nat.le_of_lt t1
      exact s_vi215n h hW hk hiN (fun _ => by omega) hj v3 (by omega) (by omega) (by omega) i6 (i32s (by omega) (by omega)) z3 ((cl.gn G3.1 hR).up hT) ((ch.gn G3.1 hR).up hT) (fun _ => ⟨T2, rfl, rl_cte L2 (v2.g6 h) hR Rl z3⟩)
    · exact s_vi215x L3 (v2.2.1.trans (rlR.ge (R := R) (W := W) (C := C) (Z := Z) L2 Rl).1) z3 ik iW iz ii i6 ilo ihi ij (i32s (by omega) (by omega))
theorem s_vi91 {k e i : Nat} {bl : Int} (h : Df M a g N T K R W C Z E tg) (h16 : mI M a 16 = 0) (hW : W < 12) (heN : e < N) (hT : T ≤ k) (hZ : Z ≤ k) (hb : (bl = 1 ∧ i = k + 4) ∨ (bl = 0 ∧ ∃ j, Eo (wk M a) 6 (k + 3) j ∧ wk M a j = 16 ∧ Eo (wk M a) 6 (j + 1) i)) (hi : (wk M a i ≠ 9 ∧ i = e) ∨ (wk M a i = 9 ∧ Eo (wk M a) 6 (i + 1) e)) : h_MM_varItem_91 G (d + 7) a k e W bl i M (fun M' => mOk M' ∧ itQ M a g N (e + 1) M') := by
  have hN := h.1.2.1.1.2.2
  have hg := h.1.2.2.2.2.2.1
  have hR := h.2.2.2.2.1.1
  have hL := h.1
  have w := hL.2.1.1.1
  have hie : i ≤ e := by
    rcases hi with ⟨-, z⟩ | ⟨-, z⟩
    · omega
    · have := z.pr.1; omega
  have hki : k + 4 ≤ i := by
    rcases hb with ⟨-, z⟩ | ⟨-, j, z1, -, z2⟩
    · omega
    · have := z1.pr.1; have := z2.pr.1; omega
  have h9 : wk M a i = 9 → Eo (wk M a) 6 (i + 1) e := fun z => by
    rcases hi with ⟨y, -⟩ | ⟨-, y⟩
    · exact absurd z y
    · exact y
  have bl01 : bl = 0 ∨ bl = 1 := by
    rcases hb with ⟨z, -⟩ | ⟨z, -⟩
    · exact Or.inr z
    · exact Or.inl z
  have iz : i32 (0 : Int) := ⟨by decide, by decide⟩
  have im : i32 (-1 : Int) := ⟨by decide, by decide⟩
  have ik : i32 (k : Int) := i32s (by omega) (by omega)
  have iW : i32 (W : Int) := i32s (by omega) (by omega)
  have ii : i32 (i : Int) := i32s (by omega) (by omega)
  have ie : i32 (e : Int) := i32s (by omega) (by omega)
  have ib : i32 bl := by rcases bl01 with z | z <;> rw [z] <;> exact ⟨by decide, by decide⟩
  have W12 : ((0 : Int) ≤ W ∧ (W : Int) < ((12 : Nat) : Int)) := by omega
  have hiN : i < N := by omega
  have hkN : k + 3 < N := by omega
  have hZe : Z ≤ e + 1 := by omega
  clear hi
  refine k_MM_varItem_91 hL.1 ik ie iW ib ii ⟨w.1.1, hL.wd (d := d + 6) hiN (fun x hx ix => ⟨ix, hL.1, fun v hv => ⟨w.1.1, ?_⟩⟩)⟩
  rw [show mR M a 10 = g from hL.2.2.2.2.1, show mR M g 13 = g + 18 from (w.gp hg).2.2.1.1, Int.toNat_natCast]
  refine ⟨(w.gp hg).1, (w.gp hg).2.2.2.2.1.1.1, by rw [(w.gp hg).2.2.2.2.1.1.2]; exact W12, bl01, fun M2 e2 => ?_⟩
  obtain ⟨v2, a2⟩ := vI.new h bl01 e2
  have L2 := v2.1
  have w2 := L2.2.1.1.1
  have wkE := v2.2.1.wk hg
  have z2 : mI M2 a 16 = 0 := by rw [a2]; exact h16
  have v01 : v = 0 ∨ v = 1 := by split at hv <;> omega
  have v9 : v ≠ 0 → Eo (wk M a) 6 (i + 1) e := fun z => h9 (by
    split at hv
    · rename_i y; exact hx.symm.trans y
    · exact absurd hv z)
  have i6 : i32 v := by rcases v01 with z | z <;> rw [z] <;> exact ⟨by decide, by decide⟩
  clear hv hx h9 e2
  rcases hb with ⟨z, -⟩ | ⟨z, j, j1, j2, j3⟩
  · subst z
    refine ⟨fun y => absurd y (by decide), fun _ => ⟨fun q => ?_, fun q => ?_⟩⟩
    · have z6 : v = 0 := q.elim (fun z => z) (fun z => absurd z2 z)
      exact s_vi215b h hW hkN hiN (fun z => absurd z6 z) v2 (by omega) hZe (by omega) i6 im z2 (fun z => absurd z6 z)
    · have n6 : v ≠ 0 := fun z => q (Or.inl z)
      have eo := v9 n6
      have hlt := eo.pr.1
      rw [show (i : Int) + 1 = ((i + 1 : Nat) : Int) by omega]
      refine (s_MM_rule1 (d := d) (co := 1) (tr := 1) ⟨by decide, by decide⟩ (Or.inr rfl) L2 (by omega) (by rw [wkE]; exact eo) heN).mono (fun x M3 q3 => ?_)
      obtain ⟨ex, T3, t1, t2, Rl⟩ := q3
      subst ex
      have L3 := Rl.2.1
      refine ⟨i32s (by omega) (by omega), L3.1, ?_⟩
      by_cases z3 : mI M3 a 16 = 0
      · have v3 := v2.rl (Nat.le_of_lt t1) Rl z3
        exact s_vi215b h hW hkN hiN (fun _ => by omega) v3 (by omega) hZe (by omega) i6 (i32s (by omega) (by omega)) z3 (fun _ => ⟨T, rfl, rl_cte L2 (v2.g6 h) hR Rl z3⟩)
      · exact s_vi215x L3 (v2.2.1.trans (rlR.ge (R := R) (W := W) (C := C) (Z := Z) L2 Rl).1) z3 ik iW ⟨by decide, by decide⟩ ii i6 im im (i32s (by omega) (by omega)) (i32s (by omega) (by omega))
  · subst z
    have p1 := j1.pr.1
    have p3 := j3.pr.1
    have hjN : j < N := by omega
    refine ⟨fun _ => ?_, fun y => absurd rfl y⟩
    rw [show (k : Int) + 3 = ((k + 3 : Nat) : Int) by omega]
    refine L2.ub (d := d + 5) (by omega) (by rw [wkE]; exact j1.pr.2.2.2.2.1) hjN (by rw [wkE]; exact j2) (Or.inl rfl) ⟨i32s (by omega) (by omega), L2.1, w2.1.1, ?_⟩
    refine (s_MM_rule1 (d := d) (co := 1) (tr := 0) ⟨by decide, by decide⟩ (Or.inl rfl) L2 (by omega) (by rw [wkE]; exact j1) hjN).mono (fun x M3 q3 => ?_)
    obtain ⟨ex, T3, t1, t2, Rl⟩ := q3
    subst ex
    have L3 := Rl.2.1
    have w3 := L3.2.1.1.1
    have I3 := v2.2.1.trans (rlR.ge (R := R) (W := W) (C := C) (Z := Z) L2 Rl).1
    have iT : i32 (T : Int) := i32s (by omega) (by omega)
    have ij : i32 (j : Int) := i32s (by omega) (by omega)
    refine ⟨iT, L3.1, w3.1.1, fun z3 => ?_, fun z3 => s_vi185x L3 I3 z3 ik ie iW iz ii i6 iT ij im⟩
    have v3 := v2.rl (Nat.le_of_lt t1) Rl z3
    have cl := rl_cte (W := W) L2 (v2.g6 h) hR Rl z3
    have wkE3 := v3.2.1.wk hg
    rw [show (j : Int) + 1 = ((j + 1 : Nat) : Int) by omega]
    refine (s_MM_rule1 (d := d) (co := 1) (tr := 0) ⟨by decide, by decide⟩ (Or.inl rfl) L3 (by omega) (by rw [wkE3]; exact j3) hiN).mono (fun x M4 q4 => ?_)
    obtain ⟨ex, T4, u1, u2, Rm⟩ := q4
    subst ex
    have L4 := Rm.2.1
    have iT3 : i32 (T3 : Int) := i32s (by omega) (by omega)
    refine ⟨iT3, L4.1, ?_⟩
    by_cases z4 : mI M4 a 16 = 0
    · have v4 := v3.rl (Nat.le_of_lt u1) Rm z4
      have G4 := (rlR.ge (R := R) (W := W) (C := C) (Z := Z) L3 Rm).2.1 z4
      exact s_vi185 h hW hkN hie heN (by omega) (by omega) hZ v4 (by omega) v01 z4 ((cl.gn G4.1 hR).up (Nat.le_of_lt u1)) (rl_cte L3 (v3.g6 h) hR Rm z4) v9
    · exact s_vi185x L4 (I3.trans (rlR.ge (R := R) (W := W) (C := C) (Z := Z) L3 Rm).1) z4 ik ie iW iz ii i6 iT ij iT3
theorem s_MM_varItem {k e i : Nat} (h : Df M a g N T K R W C Z E tg) (h16 : mI M a 16 = 0) (heN : e < N) (hT : T ≤ k) (hZ : Z ≤ k) (hv : Vs (wk M a) (k + 3) i) (hi : (wk M a i ≠ 9 ∧ i = e) ∨ (wk M a i = 9 ∧ Eo (wk M a) 6 (i + 1) e)) : Cv G y_MM_varItem (d + 8) [vr a, vi k, vi e] M (fun M' => mOk M' ∧ itQ M a g N (e + 1) M') := by
  have hN := h.1.2.1.1.2.2
  have hg := h.1.2.2.2.2.2.1
  have hBd := h.2.2.2.2.1
  have hL := h.1
  have w := hL.2.1.1.1
  have g12 := h.2.1.2.1
  have hie : i ≤ e := by
    rcases hi with ⟨-, z⟩ | ⟨-, z⟩
    · omega
    · have := z.pr.1; omega
  have hki : k + 4 ≤ i := by
    rcases hv with ⟨-, z⟩ | ⟨-, j, z1, -, z2⟩
    · omega
    · have := z1.pr.1; have := z2.pr.1; omega
  have hlast : i = e ∨ wk M a i = 9 := hi.elim (fun z => Or.inl z.2) (fun z => Or.inr z.1)
  have n9 : wk M a (k + 3) ≠ 5 → ∀ m, k + 3 ≤ m → m < i → wk M a m ≠ 9 := fun z m m1 m2 => by
    rcases hv with ⟨y, -⟩ | ⟨-, j, z1, z2, z3⟩
    · exact absurd y z
    · by_cases q : m < j
      · have := rwd_all z1 m1 q; unfold rwd at this; omega
      · by_cases q2 : m = j
        · rw [q2, z2]; decide
        · have := rwd_all z3 (show j + 1 ≤ m by omega) m2; unfold rwd at this; omega
  have iW : i32 (W : Int) := i32s (by omega) (by omega)
  refine k_MM_varItem hL.1 (i32s (by omega) (by omega)) (i32s (by omega) (by omega)) ⟨w.1.1, ?_⟩
  rw [show mR M a 10 = g from hL.2.2.2.2.1, g12, show (k : Int) + 1 = ((k + 1 : Nat) : Int) by omega]
  refine ⟨(w.gp hg).1, fun q => s_st_it (d := d + 6) (c := 5) (by decide) ⟨by decide, by decide⟩ hL (by omega), fun q => ?_⟩
  have hW : W < 12 := by omega
  have hK : K ≤ 200 := hL.2.2.1.2.2.2.1
  refine hL.fd (d := d + 4) (by omega) (fun r r0 r1 => ⟨i32s (by omega) (by omega), hL.1, fun q2 => ⟨w.1.1, ?_⟩, fun q2 => ⟨w.1.1, s_st_it (d := d + 6) (c := 2) (by decide) ⟨by decide, by decide⟩ hL (by omega)⟩⟩)
  rw [show mR M a 10 = g from hL.2.2.2.2.1, g12, show (k : Int) + 3 = ((k + 3 : Nat) : Int) by omega]
  refine ⟨(w.gp hg).1, hL.wd (d := d + 6) (by omega) (fun x hx ix => ⟨ix, hL.1, fun v hv' => ⟨fun z => ⟨w.1.1, ?_⟩, fun z => ?_⟩⟩)⟩
  · have x5 : wk M a (k + 3) ≠ 5 := fun y => by
      rw [if_pos (hx.trans y)] at hv'
      omega
    subst z
    refine hL.io (d := d + 5) (by omega) hie heN (n9 x5) hlast ⟨i32s (by omega) (by omega), hL.1, s_vi91 h h16 hW heN hT hZ (Or.inr ⟨rfl, ?_⟩) hi⟩
    rcases hv with ⟨y, -⟩ | ⟨-, y⟩
    · exact absurd y x5
    · exact y
  · have x5 : wk M a (k + 3) = 5 := by
      split at hv'
      · rename_i y; exact hx.symm.trans y
      · exact absurd hv' z
    have i4 : i = k + 4 := by
      rcases hv with ⟨-, y⟩ | ⟨y, -⟩
      · omega
      · exact absurd x5 y
    have v1 : v = 1 := by rw [if_pos (hx.trans x5)] at hv'; exact hv'
    subst v1
    rw [show (k : Int) + 4 = (i : Int) by omega]
    exact s_vi91 h h16 hW heN hT hZ (Or.inl ⟨rfl, i4⟩) hi
end VI4
end
