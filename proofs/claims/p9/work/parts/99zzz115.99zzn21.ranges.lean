/-! The reference's vars, exactly: ranges. -/
section VXC
variable {G : mG} {d a g R W C Z T T2 T3 N K : Nat} {M M2 M3 : mM} {E : Eg9} {tg bl : Int} {s s' : st9} {nv : Nat → Int}
theorem fst9_z {x y : Int × Int} (h : (fst9 x y).1 = 0) : x.1 = 0 ∧ y.1 = 0 := by
  unfold fst9 at h
  split at h
  · rename_i q; exact ⟨q, h⟩
  · rename_i q; exact absurd h q
/-- the faults of a range -/
def rgf (lo hi : vrs) (p1 p2 : Int) : Int × Int := fst9 (fst9 (wh9 lo p1) (wh9 hi p2)) (if lo.2.1 ≤ hi.2.1 ∧ hi.2.1 - lo.2.1 < 10000 then (0, 0) else (9, p2))
/-- the same fault in both -/
theorem vI.rf {i j : Nat} {tr : Int} (h : Df M a g N T K R W C Z E tg) (hS : RSq M a g K s.1) (v : vI M a g N T K R W C Z bl T2 M2) (h3 : lst3 M a M2) : rfq M2 a (Ern M2 a g K 1) tr i j = rf9 (wk M a) (nt M (a + 7)) (smx M a) s.1 1 tr i j := by
  have sx := v.sx h.1.2.1.1.1
  unfold rfq rf9
  rw [sx.1, sx.2.1, vI.ern h hS v h3, hS.en (Or.inr rfl)]
/-- a rule of consts inside a var -/
theorem x_vrule {i j : Nat} {tr : Int} {Q : Int → mM → Prop} (h : Df M a g N T K R W C Z E tg) (hS : RSq M a g K s.1) (v2 : vI M a g N T K R W C Z bl T2 M2) (l2 : lst3 M a M2) (z2 : mI M2 a 16 = 0) (htr : tr = 0 ∨ tr = 1) (hT : T2 + (j - i) ≤ 30000) (eo : Eo (wk M a) 6 i j) (hj : j < N) (hbad : ∀ (M3 : mM) (T3 : Nat), Lc M3 a g N T3 K → iF M a g M3 → mI M3 a 16 ≠ 0 → (rf9 (wk M a) (nt M (a + 7)) (smx M a) s.1 1 tr i j).1 ≠ 0 → fpw M3 a (rf9 (wk M a) (nt M (a + 7)) (smx M a) s.1 1 tr i j) → Q T2 M3) (hgood : ∀ (M3 : mM) (T3 : Nat), T2 < T3 → T3 ≤ T2 + (j - i) → vI M a g N T K R W C Z bl T3 M3 → lst3 M a M3 → mI M3 a 16 = 0 → (rf9 (wk M a) (nt M (a + 7)) (smx M a) s.1 1 tr i j).1 = 0 → Ctx M3 a g R W T3 (nrq M a (rvn M a K)) i j T2 tr → (Ge M2 g R W C Z T2 M3 ∧ SXq M2 a M3 ∧ ∀ n, n < T2 → pm M3 g n = pm M2 g n) → Q T2 M3) : Ci G y_MM_rule1 (d + 7) [vr a, vi i, vi j, vi tr, vi 1] M2 Q := by
  have L2 := v2.1
  have hg := h.1.2.2.2.2.2.1
  have sx2 := v2.sx h.1.2.1.1.1
  refine (x_MM_rule1 (d := d) (co := 1) (tr := tr) (ur_n (M := M2) (a := a) (g := g) (N := N) (K := K) (co := 1)) ⟨by decide, by decide⟩ htr L2 hT (by rw [sx2.1]; exact eo) hj).mono (fun x M3 q3 => ?_)
  obtain ⟨ex, T3, t1, t2, Rl, qx⟩ := q3
  subst ex
  rw [vI.rf h hS v2 l2] at qx
  have l3 := l2.trans (lst3.rl hg Rl)
  have I3 := (rlR.ge (R := R) (W := W) (C := C) (Z := Z) L2 Rl).1
  rcases qx with q | ⟨q, qf⟩ | ⟨q, q1, q2, q4⟩
  · exact absurd z2 q
  · exact hbad M3 T3 Rl.2.1 (v2.2.1.trans I3) q (by rw [← qf.1]; exact q) qf
  · have v3 := v2.rl (Nat.le_of_lt t1) Rl q q4
    have ct := rl_ctx (W := W) L2 (v2.g6 h) h.2.2.2.2.1.1 (by rw [sx2.1]; exact eo) Rl q q4 q2
    rw [vI.nr h v2 l2] at ct
    exact hgood M3 T3 t1 t2 v3 l3 q q1 ct ⟨(rlR.ge (R := R) (W := W) (C := C) (Z := Z) L2 Rl).2.1 q q4, I3.sx L2.2.1.1.1 hg, q4⟩
theorem x_vi215x {gm : gm9} {e : Nat} {l1 l3 l4 l5 l6 l7 l8 l9 k0 : Int} (L2 : Lc M2 a g N T2 K) (I2 : iF M a g M2) (z : mI M2 a 16 ≠ 0) (flt : s'.2.2.1 ≠ 0 ∧ fpw M2 a s'.2.2) (i1 : i32 l1) (i3 : i32 l3) (i4 : i32 l4) (i5 : i32 l5) (i6 : i32 l6) (i7 : i32 l7) (i8 : i32 l8) (i9 : i32 l9) (i0 : i32 k0) : h_MM_varItem_215 G (d + 7) a l1 l3 l4 l5 l6 l7 l8 l9 k0 M2 (fun M' => mOk M' ∧ itX M a g N e s' gm M') :=
  k_MM_varItem_215w L2.1 i1 i3 i4 i5 i6 i7 i8 i9 i0 ⟨L2.2.1.1.1.1.1, fun y => absurd y z, fun _ => ⟨L2.1, I2, Or.inl flt⟩⟩
theorem x_vi185x {gm : gm9} {e : Nat} {l1 l2 l3 l4 l5 l6 l7 l9 k0 : Int} (L2 : Lc M2 a g N T2 K) (I2 : iF M a g M2) (z : mI M2 a 16 ≠ 0) (flt : s'.2.2.1 ≠ 0 ∧ fpw M2 a s'.2.2) (i1 : i32 l1) (i2 : i32 l2) (i3 : i32 l3) (i4 : i32 l4) (i5 : i32 l5) (i6 : i32 l6) (i7 : i32 l7) (i9 : i32 l9) (i0 : i32 k0) : h_MM_varItem_185 G (d + 7) a l1 l2 l3 l4 l5 l6 l7 l9 k0 M2 (fun M' => mOk M' ∧ itX M a g N e s' gm M') :=
  k_MM_varItem_185 L2.1 i1 i2 i3 i4 i5 i6 i7 i9 i0 ⟨fun _ => L2.2.1.1.1.1.1, fun _ => x_vi215x L2 I2 z flt i1 i3 i4 i5 i6 i7 i0 i9 ⟨by decide, by decide⟩, fun q => absurd (Or.inr z) q⟩
theorem SXq.to (h : SXq M a M2) (k : SXq M a M3) : SXq M2 a M3 := ⟨k.1.trans h.1.symm, k.2.1.trans h.2.1.symm, k.2.2.1.trans h.2.2.1.symm, k.2.2.2.trans h.2.2.2.symm⟩
theorem x_vi215b {gm : gm9} {x9 : Int × Int × Int} {k e e9 i : Nat} {l6 l10 : Int} {V : vrs} (eγ : E.2 = txg M a N s.1 gm) (hx9 : x9 = (0, 1, if l6 ≠ 0 then V.2.1 else 0)) (h : Df M a g N T K R W C Z E tg) (hS : RSq M a g K s.1) (hW : W < 12) (hk : k + 3 < N) (hi : i < N) (hi1 : l6 ≠ 0 → i + 1 < N) (v2 : vI M a g N T K R W C Z 1 T2 M2) (l2 : lst3 M a M2) (hnew : fdn M a K (k + 1) = -1) (hTe : T2 ≤ e) (hZe : Z ≤ e) (hT16 : T2 ≤ 16384) (il6 : i32 l6) (il10 : i32 l10) (z16 : mI M2 a 16 = 0) (hf : l6 ≠ 0 → ∃ n : Nat, l10 = n ∧ Ctx M2 a g R W T2 (nrq M a (rvn M a K)) (i + 1) e9 n 1) (hfl : l6 ≠ 0 → Eo (wk M a) 6 (i + 1) e9 ∧ (fl (wk M a) (E9 (smx M a) s.1 1) (nt M (a + 7)) 0 (i + 1) e9).1 = 0) (hV : V = vlq (wk M a) (cv9 (wk M a) (nuq M a) (smx M a) s.1) (nt M (a + 7)) 0 0 (i + 1) e9) (flb : l6 ≠ 0 → (wh9 V (nt M (a + 7) (i + 1))).1 ≠ 0 → s'.2.2 = wh9 V (nt M (a + 7) (i + 1))) (good : (l6 ≠ 0 → (wh9 V (nt M (a + 7) (i + 1))).1 = 0) → s' = (s.1 ++ [(k + 1, 3, 1, (0, 0, 1))], (W + 1, R, C, if tg = -1 then 0 else 1), (0, 0))) : h_MM_varItem_215 G (d + 7) a k W 1 i l6 (-1) (-1) ((k : Int) + 3) l10 M2 (fun M' => mOk M' ∧ itX M a g N e s' (gm.1 ++ [x9], gm.2) M') := by
  have hN := h.1.2.1.1.2.2
  have hg := h.1.2.2.2.2.2.1
  have hR := h.2.2.2.2.1.1
  have L2 := v2.1
  have w2 := L2.2.1.1.1
  have ik : i32 (k : Int) := i32s (by omega) (by omega)
  have iW : i32 (W : Int) := i32s (by omega) (by omega)
  have ii : i32 (i : Int) := i32s (by omega) (by omega)
  have ik3 : i32 ((k : Int) + 3) := i32s (by omega) (by omega)
  have W12 : ((0 : Int) ≤ W ∧ (W : Int) < ((12 : Nat) : Int)) := by omega
  refine k_MM_varItem_215w L2.1 ik iW ⟨by decide, by decide⟩ ii il6 ⟨by decide, by decide⟩ ⟨by decide, by decide⟩ ik3 il10 ⟨w2.1.1, fun _ => ⟨fun y => absurd y (by decide), fun _ => ?_⟩, fun y => absurd z16 y⟩
  rw [show mR M2 a 10 = g from L2.2.2.2.2.1, show mR M2 g 14 = g + 19 from (w2.gp hg).2.2.1.2.1, Int.toNat_natCast]
  refine ⟨(w2.gp hg).1, (w2.gp hg).2.2.2.2.1.2.1.1, by rw [(w2.gp hg).2.2.2.2.1.2.1.2]; exact W12, fun M3 e3 => ?_⟩
  have G3 := vst_ge (R := R) (C := C) (Z := Z) (i := 19) (v := 0) L2 ⟨by decide, by decide⟩ (by omega) (by decide) (by decide) e3
  obtain ⟨v3, f3, a3⟩ := v2.st (i := 19) (v := 0) ⟨by decide, by decide⟩ (by omega) (by decide) (by decide) e3
  have L3 := v3.1
  have w3 := L3.2.1.1.1
  rw [show mR M3 a 10 = g from L3.2.2.2.2.1, show mR M3 g 15 = g + 20 from (w3.gp hg).2.2.1.2.2.1]
  refine ⟨(w3.gp hg).1, (w3.gp hg).2.2.2.2.1.2.2.1.1, by rw [(w3.gp hg).2.2.2.2.1.2.2.1.2]; exact W12, fun M4 e4 => ?_⟩
  have G4 := vst_ge (R := R) (C := C) (Z := Z) (i := 20) (v := 1) L3 ⟨by decide, by decide⟩ (by omega) (by decide) (by decide) e4
  obtain ⟨v4, f4, a4⟩ := v3.st (i := 20) (v := 1) ⟨by decide, by decide⟩ (by omega) (by decide) (by decide) e4
  have G24 := G3.trans G4
  have x3 := lst3.ui (x := 0) (i := 19) (v := 0) L2 ⟨by decide, by decide⟩ (by omega) (by decide) (by decide) e3
  have x4 := lst3.ui (x := 0) (i := 20) (v := 1) L3 ⟨by decide, by decide⟩ (by omega) (by decide) (by decide) e4
  have l4 := (l2.trans x3.1).trans x4.1
  have w0 := h.1.2.1.1.1
  have sx24 : SXq M2 a M4 := SXq.to (v2.sx w0) (v4.sx w0)
  have z4 : mI M4 a 16 = 0 := by rw [a4, a3]; exact z16
  have bz : ∀ lo hi p : Int, bef 1 lo hi p V = wh9 V p := fun lo hi p => if_pos (by decide)
  have c19 : mI M4 (g + 19) W = 0 := by rw [f4, if_neg (fun z => by omega), f3, if_pos ⟨rfl, rfl⟩]
  have c20 : mI M4 (g + 20) W = 1 := by rw [f4, if_pos ⟨rfl, rfl⟩]
  refine x_vi369 (x9 := x9) eγ (fun _ => by rw [c19, c20, hx9]; exact ⟨rfl, rfl, rfl⟩) h hS hW (by omega) hi hi1 v4 l4 hnew hTe hZe hT16 il6 il10 (Or.inr rfl) (fun _ => ?_) (fun q => ?_) hfl hV (fun z => absurd z4 z) (fun _ n6 => by rw [bz]; exact flb n6) (fun _ n6 => good (fun q => by rw [← bz]; exact n6 q))
  · rw [c19, c20]
    exact ⟨fun _ => ⟨rfl, rfl⟩, by decide, by decide, by decide⟩
  · obtain ⟨n, hn, ct⟩ := hf q
    exact ⟨n, hn, ct.gn G24.1 hR sx24 (fun n _ => (x4.2 n).trans (x3.2 n))⟩
theorem x_vi215n {gm : gm9} {x9 : Int × Int × Int} {k e e9 i j lo hi : Nat} {l6 l10 : Int} {V Vl Vh : vrs} (eγ : E.2 = txg M a N s.1 gm) (hx9 : x9 = (Vl.2.1, Vh.2.1, if l6 ≠ 0 then V.2.1 else Vl.2.1)) (h : Df M a g N T K R W C Z E tg) (hS : RSq M a g K s.1) (hW : W < 12) (hk : k + 3 < N) (hi' : i < N) (hi1 : l6 ≠ 0 → i + 1 < N) (hj : j + 1 < N) (v2 : vI M a g N T K R W C Z 0 T2 M2) (l2 : lst3 M a M2) (hnew : fdn M a K (k + 1) = -1) (hTe : T2 ≤ e) (hZe : Z ≤ e) (hT16 : T2 ≤ 16384) (il6 : i32 l6) (il10 : i32 l10) (z16 : mI M2 a 16 = 0) (cl : Ctx M2 a g R W T2 (nrq M a (rvn M a K)) (k + 3) j lo 0) (ch : Ctx M2 a g R W T2 (nrq M a (rvn M a K)) (j + 1) i hi 0) (fl1 : (fl (wk M a) (E9 (smx M a) s.1 1) (nt M (a + 7)) 0 (k + 3) j).1 = 0) (fl2 : (fl (wk M a) (E9 (smx M a) s.1 1) (nt M (a + 7)) 0 (j + 1) i).1 = 0) (hf : l6 ≠ 0 → ∃ n : Nat, l10 = n ∧ Ctx M2 a g R W T2 (nrq M a (rvn M a K)) (i + 1) e9 n 0) (hfl : l6 ≠ 0 → Eo (wk M a) 6 (i + 1) e9 ∧ (fl (wk M a) (E9 (smx M a) s.1 1) (nt M (a + 7)) 0 (i + 1) e9).1 = 0) (hV : V = vlq (wk M a) (cv9 (wk M a) (nuq M a) (smx M a) s.1) (nt M (a + 7)) 0 0 (i + 1) e9) (hVl : Vl = vlq (wk M a) (cv9 (wk M a) (nuq M a) (smx M a) s.1) (nt M (a + 7)) 0 0 (k + 3) j) (hVh : Vh = vlq (wk M a) (cv9 (wk M a) (nuq M a) (smx M a) s.1) (nt M (a + 7)) 0 0 (j + 1) i) (fr : (rgf Vl Vh (nt M (a + 7) (k + 3)) (nt M (a + 7) (j + 1))).1 ≠ 0 → s'.2.2 = (rgf Vl Vh (nt M (a + 7) (k + 3)) (nt M (a + 7) (j + 1)))) (flb : (rgf Vl Vh (nt M (a + 7) (k + 3)) (nt M (a + 7) (j + 1))).1 = 0 → l6 ≠ 0 → (bef 0 Vl.2.1 Vh.2.1 (nt M (a + 7) (i + 1)) V).1 ≠ 0 → s'.2.2 = (bef 0 Vl.2.1 Vh.2.1 (nt M (a + 7) (i + 1)) V)) (good : (rgf Vl Vh (nt M (a + 7) (k + 3)) (nt M (a + 7) (j + 1))).1 = 0 → (l6 ≠ 0 → (bef 0 Vl.2.1 Vh.2.1 (nt M (a + 7) (i + 1)) V).1 = 0) → s' = (s.1 ++ [(k + 1, 3, 0, (0, 0, 1))], (W + 1, R, C, if tg = -1 then 0 else 1), (0, 0))) : h_MM_varItem_215 G (d + 7) a k W 0 i l6 lo hi j l10 M2 (fun M' => mOk M' ∧ itX M a g N e s' (gm.1 ++ [x9], gm.2) M') := by
  have hN := h.1.2.1.1.2.2
  have hg := h.1.2.2.2.2.2.1
  have hR := h.2.2.2.2.1.1
  have L2 := v2.1
  have w2 := L2.2.1.1.1
  have ik : i32 (k : Int) := i32s (by omega) (by omega)
  have iW : i32 (W : Int) := i32s (by omega) (by omega)
  have ii : i32 (i : Int) := i32s (by omega) (by omega)
  have ij : i32 (j : Int) := i32s (by omega) (by omega)
  have ilo : i32 (lo : Int) := by
    obtain ⟨-, f, e', t, t', -⟩ := cl
    have := t.tn.lt
    exact i32s (by omega) (by omega)
  have ihi : i32 (hi : Int) := by
    obtain ⟨-, f, e', t, t', -⟩ := ch
    have := t.tn.lt
    exact i32s (by omega) (by omega)
  have W12 : ((0 : Int) ≤ W ∧ (W : Int) < ((12 : Nat) : Int)) := by omega
  refine k_MM_varItem_215w L2.1 ik iW ⟨by decide, by decide⟩ ii il6 ilo ihi ij il10 ⟨w2.1.1, fun _ => ⟨fun _ => ?_, fun y => absurd rfl y⟩, fun y => absurd z16 y⟩
  rw [show mR M2 a 10 = g from L2.2.2.2.2.1, show mR M2 g 14 = g + 19 from (w2.gp hg).2.2.1.2.1, Int.toNat_natCast, show (k : Int) + 3 = ((k + 3 : Nat) : Int) by omega]
  refine ⟨(w2.gp hg).1, (x_MM_wholeOf (d := d + 2) L2 (v2.ev h.2.2.2.2 hT16) cl hk).mono (fun x1 M3 t3 => ?_)⟩
  obtain ⟨ix1, o3, E3, r3, y3, -⟩ := t3
  have y3 := y3 z16
  have w0 := h.1.2.1.1.1
  have ec : Eo (wk M a) 6 (k + 3) j := by have := cl.1; rw [(v2.sx w0).1] at this; exact this
  have eh : Eo (wk M a) 6 (j + 1) i := by have := ch.1; rw [(v2.sx w0).1] at this; exact this
  unfold whX at y3
  rw [vI.vl h hS v2 l2 ec fl1, ← hVl, (v2.sx w0).2.1] at y3
  have v3 := v2.eo E3
  have l3 := l2.trans (lst3.eo E3)
  have G3 := (E3.lc (R := R) (W := W) (C := C) (Z := Z) L2).2.2.1
  have w3 := v3.1.2.1.1.1
  refine ⟨ix1, o3, (w3.gp hg).2.2.2.2.1.2.1.1, by rw [(w3.gp hg).2.2.2.2.1.2.1.2]; exact W12, fun M4 e4 => ?_⟩
  have G4 := vst_ge (R := R) (C := C) (Z := Z) (i := 19) v3.1 ix1 (by omega) (by decide) (by decide) e4
  obtain ⟨v4, f4, a4⟩ := v3.st (i := 19) ix1 (by omega) (by decide) (by decide) e4
  have L4 := v4.1
  have w4 := L4.2.1.1.1
  have G24 := G3.trans G4
  have c4 : mI M4 (g + 19) W = x1 := by rw [f4, if_pos ⟨rfl, rfl⟩]
  have z4 : mI M4 a 16 = mI M3 a 16 := by rw [a4]
  have x4 := lst3.ui (x := 0) (i := 19) v3.1 ix1 (by omega) (by decide) (by decide) e4
  have l4 := l3.trans x4.1
  have aa4 : mI M4 a = mI M3 a := a4
  have sx24 : SXq M2 a M4 := SXq.to (v2.sx w0) (v4.sx w0)
  have p24 : ∀ n, n < T2 → pm M4 g n = pm M2 g n := fun n _ => (x4.2 n).trans (E3.pm n)
  clear f4 a4 e4
  rw [show mR M4 a 10 = g from L4.2.2.2.2.1, show mR M4 g 15 = g + 20 from (w4.gp hg).2.2.1.2.2.1, show (j : Int) + 1 = ((j + 1 : Nat) : Int) by omega]
  refine ⟨w4.1.1, (w4.gp hg).1, (x_MM_wholeOf (d := d + 2) L4 (v4.ev h.2.2.2.2 hT16) (ch.gn G24.1 hR sx24 p24) hj).mono (fun x2 M5 t5 => ?_)⟩
  obtain ⟨ix2, o5, E5, r5, y5, y5'⟩ := t5
  unfold whX at y5
  rw [vI.vl h hS v4 l4 eh fl2, ← hVh, (v4.sx w0).2.1] at y5
  have v5 := v4.eo E5
  have G5 := (E5.lc (R := R) (W := W) (C := C) (Z := Z) L4).2.2.1
  have w5 := v5.1.2.1.1.1
  refine ⟨ix2, o5, (w5.gp hg).2.2.2.2.1.2.2.1.1, by rw [(w5.gp hg).2.2.2.2.1.2.2.1.2]; exact W12, fun M6 e6 => ?_⟩
  have G6 := vst_ge (R := R) (C := C) (Z := Z) (i := 20) v5.1 ix2 (by omega) (by decide) (by decide) e6
  obtain ⟨v6, f6, a6⟩ := v5.st (i := 20) ix2 (by omega) (by decide) (by decide) e6
  have L6 := v6.1
  have w6 := L6.2.1.1.1
  have G26 := (G24.trans G5).trans G6
  have x6 := lst3.ui (x := 0) (i := 20) v5.1 ix2 (by omega) (by decide) (by decide) e6
  have l6' := (l4.trans (lst3.eo E5)).trans x6.1
  have sx26 : SXq M2 a M6 := SXq.to (v2.sx w0) (v6.sx w0)
  have p26 : ∀ n, n < T2 → pm M6 g n = pm M2 g n := fun n hn => ((x6.2 n).trans (E5.pm n)).trans (p24 n hn)
  have FA : ((fst9 (wh9 Vl (nt M (a + 7) (k + 3))) (wh9 Vh (nt M (a + 7) (j + 1)))).1 ≠ 0 ∧ fpw M6 a (fst9 (wh9 Vl (nt M (a + 7) (k + 3))) (wh9 Vh (nt M (a + 7) (j + 1))))) ∨ ((fst9 (wh9 Vl (nt M (a + 7) (k + 3))) (wh9 Vh (nt M (a + 7) (j + 1)))).1 = 0 ∧ mI M6 a 16 = 0 ∧ x1 = Vl.2.1 ∧ x2 = Vh.2.1) := by
    rcases y3 with ⟨u1, u2⟩ | ⟨u1, u2, u3⟩
    · have e5 := y5' (by rw [aa4, u2.1]; exact u1)
      rw [fst9_l u1]
      refine Or.inl ⟨u1, ?_⟩
      unfold fpw
      rw [a6, e5, aa4]
      exact u2
    · rw [fst9_r u1]
      unfold fpw
      rw [a6]
      rcases y5 (by rw [aa4]; exact u2) with ⟨q1, q2⟩ | ⟨q1, q2, q3⟩
      · exact Or.inl ⟨q1, q2⟩
      · exact Or.inr ⟨q1, q2, u3, q3⟩
  clear y3 y5 y5'
  have hin : ∀ q, q = a + 99 → q ∈ nums a := fun q hq => by rw [hq]; exact n99
  have c19 : mI M6 (g + 19) W = x1 := by
    rw [f6, if_neg (fun z => by omega), (E5.1.cellL w4 hin (goffx (i := 19) hg (by decide) (by decide)) (fun z => by
      have : g + 19 = a ∨ g + 19 = a + 97 ∨ g + 19 = a + 98 ∨ g + 19 = a + 102 ∨ g + 19 = a + 103 ∨ g + 19 = a + 104 := z
      omega)).1, c4]
  have c20 : mI M6 (g + 20) W = x2 := by rw [f6, if_pos ⟨rfl, rfl⟩]
  have z6 : mI M6 a 16 = 0 → (-1000000000 < x1 ∧ x1 < 1000000000) ∧ -1000000000 < x2 ∧ x2 < 1000000000 := fun z => by
    rw [a6] at z
    obtain ⟨y1, y2⟩ := r5 z
    rw [z4] at y1
    exact ⟨(r3 y1).2, y2⟩
  clear f6 a6 e6 r3 r5
  rw [show mR M6 a 10 = g from L6.2.2.2.2.1, show mR M6 g 14 = g + 19 from (w6.gp hg).2.2.1.2.1, show mR M6 g 15 = g + 20 from (w6.gp hg).2.2.1.2.2.1, c19, c20]
  have b14 : ((0 : Int) ≤ W ∧ (W : Int) < (mN M6 (g + 19) : Int)) := by rw [(w6.gp hg).2.2.2.2.1.2.1.2]; exact W12
  have b15 : ((0 : Int) ≤ W ∧ (W : Int) < (mN M6 (g + 20) : Int)) := by rw [(w6.gp hg).2.2.2.2.1.2.2.1.2]; exact W12
  have hf6 : l6 ≠ 0 → ∃ n : Nat, l10 = n ∧ Ctx M6 a g R W T2 (nrq M a (rvn M a K)) (i + 1) e9 n 0 := fun q => by
    obtain ⟨n, hn, ct⟩ := hf q
    exact ⟨n, hn, ct.gn G26.1 hR sx26 p26⟩
  refine ⟨w6.1.1, (w6.gp hg).1, (w6.gp hg).2.2.2.2.1.2.1.1, b14, (w6.gp hg).2.2.2.2.1.2.2.1.1, b15, fun _ => ⟨b15, b14, trivial⟩, fun v hv => ⟨fun q => ?_, fun q => ?_⟩⟩
  · refine (s_MM_place0 (d := d + 6) L6.1 L6.2.1 hj).mono (fun y M7 h7 => ?_)
    obtain ⟨e7, hy⟩ := h7
    subst e7
    have hy32 : i32 y := by rw [hy]; exact (L6.1 _ _).1
    refine ⟨hy32, L6.1, w6.1.1, (s_MM_stop ⟨by decide, by decide⟩ hy32 L6.1 w6).mono (fun M8 h8 => ?_)⟩
    have v8 := v6.sp h8
    have G8 := (v6.1.sp (R := R) (W := W) (C := C) (Z := Z) h8.1 (fun _ z => z) (fun _ z => z)).2.2.1
    have x8 := lst3.sp (g := g) hg h8
    have rz : (rgf Vl Vh (nt M (a + 7) (k + 3)) (nt M (a + 7) (j + 1))) = (9, nt M (a + 7) (j + 1)) := by
      rcases FA with ⟨u1, u2⟩ | ⟨u1, u2, u3, u4⟩
      · exact absurd (u2.1.symm.trans q.1) u1
      · have z6 := z6 q.1
        unfold rgf
        rw [fst9_r u1, if_neg]
        rw [← u3, ← u4]
        intro z
        rw [if_neg (by rw [w32_id ⟨by omega, by omega⟩]; omega)] at hv
        omega
    refine ⟨h8.1.1, x_vi369 (x9 := x9) eγ (fun z => by rw [h8.2.1] at z; exact absurd z (by decide)) h hS hW (by omega) hi' hi1 v8 (l6'.trans x8.1) hnew hTe hZe hT16 il6 il10 (Or.inl rfl) (fun z => ?_) (fun q => ?_) hfl hV (fun _ => ?_) (fun z => ?_) (fun z => ?_)⟩
    · rw [h8.2.1] at z; exact absurd z (by decide)
    · obtain ⟨n, hn, ct⟩ := hf6 q
      exact ⟨n, hn, ct.gn G8.1 hR (SXq.to (v6.sx w0) (v8.sx w0)) (fun n _ => x8.2 n)⟩
    · have := fr (by rw [rz]; simp)
      rw [this, rz]
      exact ⟨by simp, h8.2.1, by rw [h8.2.2.1, hy, (v6.sx w0).2.1]⟩
    · rw [h8.2.1] at z; exact absurd z (by decide)
    · rw [h8.2.1] at z; exact absurd z (by decide)
  · have ok6 : mI M6 a 16 = 0 → (rgf Vl Vh (nt M (a + 7) (k + 3)) (nt M (a + 7) (j + 1))).1 = 0 ∧ x1 = Vl.2.1 ∧ x2 = Vh.2.1 := fun z => by
      rcases FA with ⟨u1, u2⟩ | ⟨u1, u2, u3, u4⟩
      · exact absurd (u2.1.symm.trans z) u1
      · have z6 := z6 z
        have vn : v ≠ 0 := fun y => q ⟨z, y⟩
        refine ⟨?_, u3, u4⟩
        unfold rgf
        rw [fst9_r u1, if_pos]
        rw [← u3, ← u4]
        by_cases c : x2 < x1
        · rw [if_pos (Or.inl c)] at hv; exact absurd hv vn
        · by_cases c2 : 10000 ≤ w32 (x2 - x1)
          · rw [if_pos (Or.inr c2)] at hv; exact absurd hv vn
          · rw [w32_id ⟨by omega, by omega⟩] at c2
            exact ⟨by omega, by omega⟩
    refine x_vi369 (x9 := x9) eγ (fun z => by obtain ⟨-, o2, o3'⟩ := ok6 z; rw [c19, c20, hx9]; exact ⟨o2, o3', rfl⟩) h hS hW (by omega) hi' hi1 v6 l6' hnew hTe hZe hT16 il6 il10 (Or.inl rfl) (fun z => ?_) hf6 hfl hV (fun z => ?_) (fun z n6 => ?_) (fun z n6 => ?_)
    · have z6 := z6 z
      rw [c19, c20]
      have vn : v ≠ 0 := fun y => q ⟨z, y⟩
      clear hf hf6 q
      refine ⟨fun y => absurd rfl y, ?_, z6.1.1, z6.2.2⟩
      split at hv
      · exact absurd hv vn
      · omega
    · rcases FA with ⟨u1, u2⟩ | ⟨u1, u2, u3, u4⟩
      · have rz : (rgf Vl Vh (nt M (a + 7) (k + 3)) (nt M (a + 7) (j + 1))) = fst9 (wh9 Vl (nt M (a + 7) (k + 3))) (wh9 Vh (nt M (a + 7) (j + 1))) := fst9_l u1
        rw [fr (by rw [rz]; exact u1), rz]
        exact ⟨u1, u2⟩
      · exact absurd u2 z
    · obtain ⟨o1, o2, o3'⟩ := ok6 z
      rw [c19, c20, o2, o3']
      exact flb o1 n6
    · obtain ⟨o1, o2, o3'⟩ := ok6 z
      rw [c19, c20, o2, o3'] at n6
      exact good o1 n6
end VXC
