/-! The reference's vars, exactly: their end. -/
section VXB
variable {G : mG} {d a g R W C Z T T2 T3 N K : Nat} {M M2 M3 : mM} {E : Eg9} {tg bl : Int} {s s' : st9} {nv : Nat → Int}
theorem x_vi410 {gm : gm9} {x : Int × Int × Int} {k e : Nat} (eγ : E.2 = txg M a N s.1 gm) (hx9 : mI M2 a 16 = 0 → mI M2 (g + 19) W = x.1 ∧ mI M2 (g + 20) W = x.2.1 ∧ mI M2 (g + 21) W = x.2.2) (hb : bl = 0 ∨ bl = 1) (h : Df M a g N T K R W C Z E tg) (hS : RSq M a g K s.1) (hW : W < 12) (hk : k + 1 < N) (v2 : vI M a g N T K R W C Z bl T2 M2) (l2 : lst3 M a M2) (hnew : fdn M a K (k + 1) = -1) (hTe : T2 ≤ e) (hZe : Z ≤ e) (hv : mI M2 a 16 = 0 → (mI M2 (g + 18) W ≠ 0 → mI M2 (g + 19) W = 0 ∧ mI M2 (g + 20) W = 1) ∧ mI M2 (g + 19) W ≤ mI M2 (g + 21) W ∧ mI M2 (g + 21) W ≤ mI M2 (g + 20) W ∧ -1000000000 < mI M2 (g + 19) W ∧ mI M2 (g + 20) W < 1000000000) (flt : mI M2 a 16 ≠ 0 → s'.2.2.1 ≠ 0 ∧ fpw M2 a s'.2.2) (good : mI M2 a 16 = 0 → s' = (s.1 ++ [(k + 1, 3, bl, (0, 0, 1))], (W + 1, R, C, if tg = -1 then 0 else 1), (0, 0))) : h_MM_varItem_410 G (d + 7) a k W M2 (fun M' => mOk M' ∧ itX M a g N e s' (gm.1 ++ [x], gm.2) M') := by
  obtain ⟨hL, ⟨g6, g12, g18, g17⟩, ⟨y30, y32, y34⟩, hK, hD⟩ := id h
  have RS9 := vI.rs h hS v2 l2
  have sx9 := v2.sx hL.2.1.1.1
  obtain ⟨L9, I9, gI9, ⟨z30, z32, z34⟩, c18, hT, G9⟩ := v2
  have hN := hL.2.1.1.2.2
  have hg := hL.2.2.2.2.2.1
  have hBd := hD.1
  have w9 := L9.2.1.1.1
  refine k_MM_varItem_410 L9.1 (i32s (by omega) (by omega)) (i32s (by omega) (by omega)) ?_
  rw [show mR M2 a 10 = g from L9.2.2.2.2.1]
  refine ⟨w9.1.1, (w9.gp hg).1, i32s (by omega) (by omega), fun M1 e1 => ?_⟩
  have a0 := goff0 hg
  obtain ⟨m1, f1, l1⟩ := mv_cell (v := (W : Int) + 1) (i32s (by omega) (by omega)) L9.1 w9 (show a ≤ g by omega) ⟨a0.1, a0.2.1, a0.2.2.1⟩ e1
  have no : ∀ q : Nat, False → q ∈ nums a := fun _ z => z.elim
  have aI1 := (m1.fld w9 no (by omega)).1
  have g1 : ∀ i, mI M1 g i = if i = 12 then (W : Int) + 1 else mI M g i := fun i => by
    rw [f1]
    by_cases z : i = 12
    · rw [if_pos ⟨rfl, z⟩, if_pos z]
    · rw [if_neg (fun y => z y.2), if_neg z, gI9]
  have x12 : mI M1 g 12 = (W : Int) + 1 := by rw [g1, if_pos rfl]
  have x6 : mI M1 g 6 = R := by rw [g1, if_neg (by omega), g6]
  have L1 : Lc M1 a g N T2 K := L9.mv m1 no (fun _ z => z.elim) (by rw [x6, gI9, g6]; omega) (by rw [x12, gI9, g12]; omega) ⟨by omega, by omega⟩ (fun r _ => by rw [f1, if_neg (fun z => by omega)])
  have I1 : iF M a g M1 := I9.trans (iF.mk w9 m1 (fun _ z => z.elim) (fun x z => Or.inr (Or.inl (by omega))) (fun i _ _ _ => by rw [aI1]))
  have w1 := m1.2.1
  refine (s_MM_know (d := d + 6) (u := (k : Int) + 1) (i32s (by omega) (by omega)) (i32s (by omega) (by omega)) (i32s (by omega) (by omega)) L1.1 w1 L1.2.2.1.1 L1.2.2.1.2.1 L1.2.2.1.2.2.1 (by omega)).mono (fun M3 t => ?_)
  obtain ⟨o2, m2, lx2, p2, e2, s2, x2⟩ := t
  obtain ⟨L2, gI2, aI2⟩ := L1.kn (by omega) m2 lx2 p2 e2 s2 x2 (by omega) (Or.inl ⟨rfl, by omega, by omega⟩) (fun z => by omega)
  obtain ⟨G2, q30, q32, q34⟩ := ge_kn (R := R) (W := W + 1) (C := C) (Z := Z) (T := T2) w1 hg m2
  have I2 : iF M a g M3 := I1.trans (iF.mk w1 m2 (fun q hq => knP_it hq) (fun _ z => z.elim) (fun i _ _ _ => by rw [aI2]))
  refine ⟨o2, o2, I2, ?_⟩
  have e16 : mI M3 a 16 = mI M2 a 16 := by rw [aI2, aI1]
  by_cases z16 : mI M3 a 16 = 0
  · have u1 := good (by rw [← e16]; exact z16)
    refine Or.inr ⟨by rw [u1], z16, T2, K + 1, R, W + 1, C, Z, (E.1, gWs E.2 (E.2.2.2.2.2.2.1 ++ [(k + 1, 3, bl, (0, 0, 1))]) (E.2.2.2.2.2.2.2.1 ++ [x], E.2.2.2.2.2.2.2.2)), tg, ⟨L2, ⟨by rw [gI2, x6], by rw [gI2, x12]; omega, by rw [gI2, g1, if_neg (by omega), g18], by rw [gI2, g1, if_neg (by omega), g17]⟩, ⟨?_, ?_, ?_⟩, by omega, ?_⟩, ⟨hTe, hZe⟩, ?_, by rw [u1], ?_⟩
    · rw [q30, (m1.lst (n30 hg) (fun z => z)).1, z30, y30]
    · rw [q32, (m1.lst (n32 hg) (fun z => z)).1, z32, y32]
    · rw [q34, (m1.lst (n34 hg) (fun z => z)).1, z34, y34]
    · have hv := hv (by rw [← e16]; exact z16)
      have D8 := (hD.ge G9).tu hT
      have D9 : Dg M2 g R (W + 1) C Z T2 (E.1, gWs E.2 (E.2.2.2.2.2.2.1 ++ [(k + 1, 3, bl, (0, 0, 1))]) (E.2.2.2.2.2.2.2.1 ++ [x], E.2.2.2.2.2.2.2.2)) tg := D8.vu hW rfl (D8.2.2.2.2.2.2.2.vu rfl (hx9 (by rw [← e16]; exact z16))) ⟨hv.1, hv.2.1, hv.2.2.1, hv.2.2.2.1, hv.2.2.2.2, by rw [c18]; exact hb⟩
      have G1 : Ge M2 g R (W + 1) C Z T2 M1 := ge_mv w9 hg m1 no (fun z => z) (fun z => z) (fun z => z) (fun i i1 i2 (z : g + i = g) => by omega) (fun n _ => ⟨(m1.lst (tL_in (q := g + 1) hg (tLk1 g)) (fun z => z)).2.1 n, (m1.lst (tL_in (q := g + 7) hg (tLk7 g)) (fun z => z)).2.1 n, (m1.lst (tL_in (q := g + 9) hg (tLk9 g)) (fun z => z)).2.1 n, (m1.lst (tL_in (q := g + 11) hg (tLk11 g)) (fun z => z)).2.1 n, (m1.lst (tL_in (q := g + 3) hg (tLk3 g)) (fun z => z)).2.1 n⟩)
      exact (D9.ge G1).ge G2
    · have t1 : tn M1 g = tn M2 g := by
        funext v
        unfold tn
        rw [show mI M1 (g + 18) = mI M2 (g + 18) from funext (fun i => by rw [f1, if_neg (fun z => by omega)]), show mI M1 (g + 14) = mI M2 (g + 14) from funext (fun i => by rw [f1, if_neg (fun z => by omega)])]
      have c14 := m2.cellL w1 (fun q hq => knP_in hq) (goffx (i := 14) hg (by decide) (by decide)) (fun z => z)
      have c16 := m2.cellL w1 (fun q hq => knP_in hq) (goffx (i := 16) hg (by decide) (by decide)) (fun z => z)
      have c17 := m2.cellL w1 (fun q hq => knP_in hq) (goffx (i := 17) hg (by decide) (by decide)) (fun z => z)
      have k18 := m2.cellL w1 (fun q hq => knP_in hq) (goffx (i := 18) hg (by decide) (by decide)) (fun z => z)
      have t2 : tn M3 g = tn M1 g := by
        funext v
        unfold tn
        rw [k18.1, c14.1]
      have sx1 : SXq M2 a M1 := (iF.mk (g := g) w9 m1 (fun _ z => z.elim) (fun x z => Or.inr (Or.inl (by omega))) (fun i _ _ _ => by rw [aI1])).sx w9 hg
      have sx2 : SXq M1 a M3 := (iF.mk (g := g) w1 m2 (fun q hq => knP_it hq) (fun _ z => z.elim) (fun i _ _ _ => by rw [aI2])).sx w1 hg
      have l31 : lst3 M2 a M1 := lst3.of m1 (fun _ _ z => z)
      have RS1 : RSq M1 a g K s.1 := RS9.eq (l31.q K) t1 ⟨by rw [l1], by rw [l1]⟩ sx1
      have hWr : vcn s.1 = W := by
        have := hD.2.2.2.2.2.2.2.1.2
        rw [eγ] at this
        exact this
      rw [u1]
      refine RS1.kn (u := k + 1) (e := (k + 1, 3, bl, (0, 0, 1))) p2 t2 ⟨c16.2, c17.2⟩ sx2 (by rw [e2]; omega) s2 x2 rfl rfl ⟨by simp, by simp⟩ ?_ (fun z => absurd z (by simp)) ?_ (fun _ p hp z => ?_) (by rw [hWr]; rfl)
      · show bl = _
        rw [t1, if_pos rfl]
        unfold tn
        rw [if_pos (show (100 : Int) ≤ 100 + (W : Int) by omega), show (100 + (W : Int) - 100).toNat = W by omega, c18]
        rcases hb with z | z <;> rw [z] <;> rfl
      · rw [l31.fd sx1, l2.fd sx9]
        exact hnew
      · rw [(l31.q K p hp).2.1, (l2.q K p hp).2.1] at z
        rw [(l31.q K p hp).2.2, (l2.q K p hp).2.2]
        have nq := (hL.2.2.1.2.2.2.2 p hp).2.1
        rw [g6, g12] at nq
        omega
    · rw [u1, (I2.sx hL.2.1.1.1 hg).tx9]
      show gWs E.2 _ _ = _
      rw [eγ]
      rfl
  · obtain ⟨u1, u2⟩ := flt (by rw [← e16]; exact z16)
    refine Or.inl ⟨u1, ?_, ?_⟩
    · rw [e16]; exact u2.1
    · rw [show mI M3 a 17 = mI M2 a 17 by rw [aI2, aI1]]; exact u2.2
theorem x_vi369 {gm : gm9} {x9 : Int × Int × Int} {k e e9 i : Nat} {l6 l10 : Int} {V : vrs} (eγ : E.2 = txg M a N s.1 gm) (hx9 : mI M2 a 16 = 0 → mI M2 (g + 19) W = x9.1 ∧ mI M2 (g + 20) W = x9.2.1 ∧ x9.2.2 = if l6 ≠ 0 then V.2.1 else x9.1) (h : Df M a g N T K R W C Z E tg) (hS : RSq M a g K s.1) (hW : W < 12) (hk : k + 1 < N) (hi : i < N) (hi1 : l6 ≠ 0 → i + 1 < N) (v2 : vI M a g N T K R W C Z bl T2 M2) (l2 : lst3 M a M2) (hnew : fdn M a K (k + 1) = -1) (hTe : T2 ≤ e) (hZe : Z ≤ e) (hT16 : T2 ≤ 16384) (il6 : i32 l6) (il10 : i32 l10) (hb : bl = 0 ∨ bl = 1) (hv : mI M2 a 16 = 0 → (bl ≠ 0 → mI M2 (g + 19) W = 0 ∧ mI M2 (g + 20) W = 1) ∧ mI M2 (g + 19) W ≤ mI M2 (g + 20) W ∧ -1000000000 < mI M2 (g + 19) W ∧ mI M2 (g + 20) W < 1000000000) (hf : l6 ≠ 0 → ∃ n : Nat, l10 = n ∧ Ctx M2 a g R W T2 (nrq M a (rvn M a K)) (i + 1) e9 n bl) (hfl : l6 ≠ 0 → Eo (wk M a) 6 (i + 1) e9 ∧ (fl (wk M a) (E9 (smx M a) s.1 1) (nt M (a + 7)) 0 (i + 1) e9).1 = 0) (hV : V = vlq (wk M a) (cv9 (wk M a) (nuq M a) (smx M a) s.1) (nt M (a + 7)) 0 0 (i + 1) e9) (flt : mI M2 a 16 ≠ 0 → s'.2.2.1 ≠ 0 ∧ fpw M2 a s'.2.2) (flb : mI M2 a 16 = 0 → l6 ≠ 0 → (bef bl (mI M2 (g + 19) W) (mI M2 (g + 20) W) (nt M (a + 7) (i + 1)) V).1 ≠ 0 → s'.2.2 = (bef bl (mI M2 (g + 19) W) (mI M2 (g + 20) W) (nt M (a + 7) (i + 1)) V)) (good : mI M2 a 16 = 0 → (l6 ≠ 0 → (bef bl (mI M2 (g + 19) W) (mI M2 (g + 20) W) (nt M (a + 7) (i + 1)) V).1 = 0) → s' = (s.1 ++ [(k + 1, 3, bl, (0, 0, 1))], (W + 1, R, C, if tg = -1 then 0 else 1), (0, 0))) : h_MM_varItem_369 G (d + 7) a k W i l6 l10 M2 (fun M' => mOk M' ∧ itX M a g N e s' (gm.1 ++ [x9], gm.2) M') := by
  have hN := h.1.2.1.1.2.2
  have hg := h.1.2.2.2.2.2.1
  have L2 := v2.1
  have w2 := L2.2.1.1.1
  have b14 := (w2.gp hg).2.2.2.2.1.2.1
  have b16 := (w2.gp hg).2.2.2.2.1.2.2.2
  refine k_MM_varItem_369 L2.1 (i32s (by omega) (by omega)) (i32s (by omega) (by omega)) (i32s (by omega) (by omega)) il6 il10 ?_
  rw [show mR M2 a 10 = g from L2.2.2.2.2.1, show mR M2 g 14 = g + 19 from (w2.gp hg).2.2.1.2.1, show mR M2 g 16 = g + 21 from (w2.gp hg).2.2.1.2.2.2.1, Int.toNat_natCast]
  refine ⟨w2.1.1, (w2.gp hg).1, b14.1, by rw [b14.2]; omega, b16.1, by rw [b16.2]; omega, fun M3 e3 => ?_⟩
  obtain ⟨v3, f3, a3⟩ := v2.st (i := 21) (L2.1 _ _).1 (by omega) (by decide) (by decide) e3
  have x3 := lst3.ui (x := 0) (i := 21) L2 (L2.1 _ _).1 (by omega) (by decide) (by decide) e3
  have l3 := l2.trans x3.1
  have c18 : mI M3 (g + 18) W = bl := v3.2.2.2.2.1
  have c19 : mI M3 (g + 19) W = mI M2 (g + 19) W := by rw [f3, if_neg (fun z => by omega)]
  have c20 : mI M3 (g + 20) W = mI M2 (g + 20) W := by rw [f3, if_neg (fun z => by omega)]
  have c21 : mI M3 (g + 21) W = mI M2 (g + 19) W := by rw [f3, if_pos ⟨rfl, rfl⟩]
  have e16 : mI M3 a 16 = mI M2 a 16 := by rw [a3]
  refine ⟨fun q => x_vi410 eγ (fun z => ?_) hb h hS hW hk v3 l3 hnew hTe hZe (fun z => ?_) (fun z => ?_) (fun z => good (by rw [← e16]; exact z) (fun n6 => q.elim (fun y => absurd y n6) (fun y => absurd z y))), fun q => ?_⟩
  · obtain ⟨p1, p2, p3⟩ := hx9 (by rw [← e16]; exact z)
    have l0 : l6 = 0 := q.elim id (fun y => absurd z y)
    rw [if_neg (fun u => u l0)] at p3
    exact ⟨by rw [c19, p1], by rw [c20, p2], by rw [c21, p1, p3]⟩
  · have := hv (by rw [← e16]; exact z)
    rw [c18, c19, c20, c21]
    exact ⟨this.1, by omega, this.2.1, this.2.2.1, this.2.2.2⟩
  · obtain ⟨u1, u2⟩ := flt (by rw [← e16]; exact z)
    exact ⟨u1, by rw [a3]; exact u2.1, by rw [a3]; exact u2.2⟩
  · have q1 : l6 ≠ 0 := fun z => q (Or.inl z)
    have q2 : mI M3 a 16 = 0 := Classical.byContradiction (fun z => q (Or.inr z))
    obtain ⟨n, hn, ct⟩ := hf q1
    subst hn
    obtain ⟨eo, fl0⟩ := hfl q1
    clear hf hfl q
    have g3 := gsti (i := 21) L2 (L2.1 _ _).1 (by omega) (by decide) (by decide) (fun z => by omega) e3
    have hv := hv (by rw [← e16]; exact q2)
    have ct3 : Ctx M3 a g R W T2 (nrq M a (rvn M a K)) (i + 1) e9 n bl := ct.gn (ge_st (R := R) (W := W) (C := C) (Z := Z) (T := T2) hg g3.2.2.2.1 f3 (by rw [e3]; rfl) (by omega) (fun _ _ => Nat.le_refl W) (by omega) (by omega)).1 h.2.2.2.2.1.1 (g3.2.1.sx w2 hg) (fun n _ => x3.2 n)
    rw [show (i : Int) + 1 = ((i + 1 : Nat) : Int) by omega]
    refine (x_MM_begins (d := d + 1) v3.1 (v3.ev h.2.2.2.2 hT16) q2 ct3 hW (fun z => by omega) (fun z => by omega) (hi1 q1)).mono (fun M4 t4 => ⟨t4.1, ?_⟩)
    obtain ⟨-, M5, x, E5, ix, e4, hx, hbx⟩ := t4
    rw [c18, c19, c20, (v3.sx h.1.2.1.1.1).2.1, vI.vl h hS v3 l3 eo fl0, ← hV] at hbx
    have v5 := v3.eo E5
    obtain ⟨v4, f4, a4⟩ := v5.st (i := 21) ix (by omega) (by decide) (by decide) e4
    have l4 := (l3.trans (lst3.eo E5)).trans (lst3.ui (x := 0) (i := 21) v5.1 ix (by omega) (by decide) (by decide) e4).1
    have w3 := v3.1.2.1.1.1
    have hin : ∀ q, q = a + 99 → q ∈ nums a := fun q hq => by rw [hq]; exact n99
    have keep : ∀ (j : Nat), j ≤ 29 → frO (13 + j) → frO (49 + j) → mI M5 (g + j) = mI M3 (g + j) := fun j j1 f1 f2 => (E5.1.cellL w3 hin (goffx hg f1 f2) (fun z => by
      have : g + j = a ∨ g + j = a + 97 ∨ g + j = a + 98 ∨ g + j = a + 102 ∨ g + j = a + 103 ∨ g + j = a + 104 := z
      omega)).1
    have d18 : mI M4 (g + 18) W = bl := v4.2.2.2.2.1
    have d19 : mI M4 (g + 19) W = mI M2 (g + 19) W := by rw [f4, if_neg (fun z => by omega), keep 19 (by omega) (by decide) (by decide), c19]
    have d20 : mI M4 (g + 20) W = mI M2 (g + 20) W := by rw [f4, if_neg (fun z => by omega), keep 20 (by omega) (by decide) (by decide), c20]
    have d21 : mI M4 (g + 21) W = x := by rw [f4, if_pos ⟨rfl, rfl⟩]
    have z2 : mI M2 a 16 = 0 := by rw [← e16]; exact q2
    refine x_vi410 (x := x9) eγ (fun z => ?_) hb h hS hW hk v4 l4 hnew hTe hZe (fun z => ?_) (fun z => ?_) (fun z => ?_)
    · obtain ⟨p1, p2, p3⟩ := hx9 z2
      rw [if_pos q1] at p3
      rcases hbx with ⟨y1, y2⟩ | ⟨y1, y2, y3⟩
      · rw [a4, y2.1] at z; exact absurd z y1
      · exact ⟨by rw [d19, p1], by rw [d20, p2], by rw [d21, p3, y3]⟩
    rotate_left
    · rcases hbx with ⟨y1, y2⟩ | ⟨y1, y2, -⟩
      · rw [flb z2 q1 y1]
        exact ⟨y1, by rw [a4]; exact y2.1, by rw [a4]; exact y2.2⟩
      · rw [a4] at z; exact absurd y2 z
    · rcases hbx with ⟨y1, y2⟩ | ⟨y1, y2, -⟩
      · rw [a4, y2.1] at z; exact absurd z y1
      · exact good z2 (fun _ => y1)
    have hx := hx (by rw [← a4]; exact z)
    rw [c18, c19, c20] at hx
    rw [d18, d19, d20, d21]
    refine ⟨hv.1, ?_, ?_, hv.2.2.1, hv.2.2.2⟩
    · rcases hb with y | y
      · exact (hx.1 y).1
      · have := hx.2 (by omega); have := hv.1 (by omega); omega
    · rcases hb with y | y
      · exact (hx.1 y).2
      · have := hx.2 (by omega); have := hv.1 (by omega); omega
end VXB
