/-! The reference: a variable item, its end. -/
section VI2
variable {G : mG} {d a g R W C Z T T2 T3 N K : Nat} {M M2 M3 : mM} {E : Nat → Nat} {tg bl : Int}
/-- inside a variable item -/
def vI (M : mM) (a g N T K R W C Z : Nat) (bl : Int) (T2 : Nat) (M2 : mM) : Prop := Lc M2 a g N T2 K ∧ iF M a g M2 ∧ mI M2 g = mI M g ∧ (ln M2 (g + 30) = ln M (g + 30) ∧ ln M2 (g + 32) = ln M (g + 32) ∧ ln M2 (g + 34) = ln M (g + 34)) ∧ mI M2 (g + 18) W = bl ∧ T ≤ T2 ∧ Ge M g R W C Z T M2
theorem vI.step (h : vI M a g N T K R W C Z bl T2 M2) (hT : T2 ≤ T3) (L3 : Lc M3 a g N T3 K) (I : iF M2 a g M3) (gI : mI M3 g = mI M2 g) (z : ln M3 (g + 30) = ln M2 (g + 30) ∧ ln M3 (g + 32) = ln M2 (g + 32) ∧ ln M3 (g + 34) = ln M2 (g + 34)) (c18 : mI M3 (g + 18) W = mI M2 (g + 18) W) (k : Ge M2 g R W C Z T2 M3) : vI M a g N T K R W C Z bl T3 M3 := by
  obtain ⟨-, h2, h3, h4, h5, h6, h7⟩ := h
  exact ⟨L3, h2.trans I, gI.trans h3, ⟨z.1.trans h4.1, z.2.1.trans h4.2.1, z.2.2.trans h4.2.2⟩, c18.trans h5, by omega, h7.trans (k.down (Nat.le_refl _) (Nat.le_refl _) (Nat.le_refl _) (Nat.le_refl _) h6)⟩
theorem vI.rl {co r : Int} (h : vI M a g N T K R W C Z bl T2 M2) (hT : T2 ≤ T3) (q : rlR co M2 a g N T2 K T3 r M3) (z : mI M3 a 16 = 0) : vI M a g N T K R W C Z bl T3 M3 := by
  obtain ⟨I3, G3, z3⟩ := rlR.ge (R := R) (W := W) (C := C) (Z := Z) h.1 q
  have hg := h.1.2.2.2.2.2.1
  have o18 := goffx (i := 18) hg (by decide) (by decide)
  have c18 := q.1.cell h.1.2.1.1.1 (fun q hq => rlP_in hg hq) o18.1 o18.2.1 o18.2.2 (by omega)
  exact h.step hT q.2.1 I3 q.2.2.2.1 z3 (by rw [c18]) (G3 z)
theorem vI.eo {F : Prop} {R' W' T' : Nat} (h : vI M a g N T K R W C Z bl T2 M2) (k : EO F M2 a g R' W' T' M3) : vI M a g N T K R W C Z bl T2 M3 := by
  obtain ⟨L3, g3, G3, z3⟩ := k.lc (R := R) (W := W) (C := C) (Z := Z) h.1
  have w2 := h.1.2.1.1.1
  exact h.step (Nat.le_refl _) L3 (k.it w2) g3 z3 (by rw [(k.gs w2).2.2.2.1]) G3
theorem vI.st {i : Nat} {v : Int} (h : vI M a g N T K R W C Z bl T2 M2) (hv : i32 v) (hi : i = 19 ∨ i = 20 ∨ i = 21) (f1 : frO (13 + i)) (f2 : frO (49 + i)) (e : M3 = mUI M2 (g + i) W v) : vI M a g N T K R W C Z bl T2 M3 ∧ (∀ y k, mI M3 y k = if y = g + i ∧ k = W then v else mI M2 y k) ∧ mI M3 a = mI M2 a := by
  obtain ⟨L3, I3, ⟨g3, a3⟩, m3, f3, l3⟩ := gsti h.1 hv (by omega) f1 f2 (fun z => by omega) e
  have hg := h.1.2.2.2.2.2.1
  have G3 := ge_st (R := R) (W := W) (C := C) (Z := Z) (T := T2) hg m3 f3 l3 (by omega) (fun _ _ => Nat.le_refl W) (by omega) (by omega)
  refine ⟨h.step (Nat.le_refl _) L3 I3 g3 ⟨(m3.lst (n30 hg) (fun z => z)).1, (m3.lst (n32 hg) (fun z => z)).1, (m3.lst (n34 hg) (fun z => z)).1⟩ ?_ G3, f3, a3⟩
  rw [f3, if_neg (fun z => by omega)]
theorem Lc.sp {P S : Nat → Prop} (h : Lc M a g N T K) (m : Mv P S M a M2) (hP : ∀ q, P q → False) (hS : ∀ x, S x → x = a) : Lc M2 a g N T K ∧ mI M2 g = mI M g ∧ Ge M g R W C Z T M2 ∧ (ln M2 (g + 30) = ln M (g + 30) ∧ ln M2 (g + 32) = ln M (g + 32) ∧ ln M2 (g + 34) = ln M (g + 34)) ∧ mI M2 (g + 18) = mI M (g + 18) := by
  have hg := h.2.2.2.2.2.1
  have hB := h.2.2.2.2.2.2.1
  have w := h.2.1.1.1
  have hin : ∀ q, P q → q ∈ nums a := fun q hq => (hP q hq).elim
  have ns : ∀ i, i ≤ 29 → ¬ S (g + i) := fun i i1 z => by
    have := hS _ z
    omega
  have gI := m.gI w hg hin (ns 0 (by omega))
  have o13 := goffx (i := 13) hg (by decide) (by decide)
  have c13 := m.cell w hin o13.1 o13.2.1 o13.2.2 (ns 13 (by omega))
  have o18 := goffx (i := 18) hg (by decide) (by decide)
  have c18 := m.cell w hin o18.1 o18.2.1 o18.2.2 (ns 18 (by omega))
  exact ⟨h.mv m hin (fun q hq => (hP q hq).elim) (by rw [gI]; omega) (by rw [gI]; omega) (by rw [gI]; omega) (fun r _ => by rw [c13]), gI, ge_mv w hg m hin (fun z => hP _ z) (fun z => hP _ z) (fun i _ i2 => ns i i2) (fun n _ => ⟨(m.lst (tL_in (q := g + 1) hg (by omega)) (fun z => hP _ z)).2.1 n, (m.lst (tL_in (q := g + 7) hg (by omega)) (fun z => hP _ z)).2.1 n, (m.lst (tL_in (q := g + 9) hg (by omega)) (fun z => hP _ z)).2.1 n, (m.lst (tL_in (q := g + 11) hg (by omega)) (fun z => hP _ z)).2.1 n⟩), ⟨(m.lst (n30 hg) (fun z => hP _ z)).1, (m.lst (n32 hg) (fun z => hP _ z)).1, (m.lst (n34 hg) (fun z => hP _ z)).1⟩, c18⟩
theorem vI.sp {c p : Int} (h : vI M a g N T K R W C Z bl T2 M2) (q : Mv (fun _ => False) (fun x => x = a) M2 a M3 ∧ mI M3 a 16 = c ∧ mI M3 a 17 = p ∧ ∀ i, i ≠ 16 → i ≠ 17 → mI M3 a i = mI M2 a i) : vI M a g N T K R W C Z bl T2 M3 := by
  obtain ⟨L3, g3, G3, z3, c18⟩ := h.1.sp (R := R) (W := W) (C := C) (Z := Z) q.1 (fun _ z => z) (fun _ z => z)
  exact h.step (Nat.le_refl _) L3 (iF.mk h.1.2.1.1.1 q.1 (fun _ z => z.elim) (fun x z => Or.inl z) (fun i i1 i2 _ => q.2.2.2 i i1 i2)) g3 z3 (by rw [c18]) G3
/-- the variable is known -/
theorem s_vi410 {k e : Nat} (hb : bl = 0 ∨ bl = 1) (h : Df M a g N T K R W C Z E tg) (hW : W < 12) (hk : k + 1 < N) (v2 : vI M a g N T K R W C Z bl T2 M2) (hTe : T2 ≤ e) (hZe : Z ≤ e) (hv : mI M2 a 16 = 0 → (mI M2 (g + 18) W ≠ 0 → mI M2 (g + 19) W = 0 ∧ mI M2 (g + 20) W = 1) ∧ mI M2 (g + 19) W ≤ mI M2 (g + 21) W ∧ mI M2 (g + 21) W ≤ mI M2 (g + 20) W ∧ -1000000000 < mI M2 (g + 19) W ∧ mI M2 (g + 20) W < 1000000000) : h_MM_varItem_410 G (d + 7) a k W M2 (fun M' => mOk M' ∧ itQ M a g N e M') := by
  obtain ⟨hL, ⟨g6, g12, g18, g17⟩, ⟨y30, y32, y34⟩, hK, hD⟩ := id h
  obtain ⟨L9, I9, gI9, ⟨z30, z32, z34⟩, c18, hT, G9⟩ := v2
  have hN := hL.2.1.1.2.2
  have hg := hL.2.2.2.2.2.1
  have hBd := hD.1
  have w9 := L9.2.1.1.1
  refine k_MM_varItem_410 L9.1 (i32s (by omega) (by omega)) (i32s (by omega) (by omega)) ?_
  rw [show mR M2 a 10 = g from L9.2.2.2.2.1]
  refine ⟨w9.1.1, (w9.gp hg).1, i32s (by omega) (by omega), fun M1 e1 => ?_⟩
  have a0 := goff0 hg
  obtain ⟨m1, f1, l1⟩ := mv_cell (v := (W : Int) + 1) (i32s (by omega) (by omega)) L9.1 w9 (show a ≤ g by omega) ⟨a0.1, a0.2.1, a0.2.2.1⟩ e1
  have no : ∀ q : Nat, False → q ∈ nums a := fun _ z => z.elim
  have aI1 := (m1.fld w9 no (by omega)).1
  have g1 : ∀ i, mI M1 g i = if i = 12 then (W : Int) + 1 else mI M g i := fun i => by
    rw [f1]
    by_cases z : i = 12
    · rw [if_pos ⟨rfl, z⟩, if_pos z]
    · rw [if_neg (fun y => z y.2), if_neg z, gI9]
  have x12 : mI M1 g 12 = (W : Int) + 1 := by rw [g1, if_pos rfl]
  have x6 : mI M1 g 6 = R := by rw [g1, if_neg (by omega), g6]
  have L1 : Lc M1 a g N T2 K := L9.mv m1 no (fun _ z => z.elim) (by rw [x6, gI9, g6]; omega) (by rw [x12, gI9, g12]; omega) ⟨by omega, by omega⟩ (fun r _ => by rw [f1, if_neg (fun z => by omega)])
  have I1 : iF M a g M1 := I9.trans (iF.mk w9 m1 (fun _ z => z.elim) (fun x z => Or.inr (Or.inl (by omega))) (fun i _ _ _ => by rw [aI1]))
  have w1 := m1.2.1
  refine (s_MM_know (d := d + 6) (u := (k : Int) + 1) (i32s (by omega) (by omega)) (i32s (by omega) (by omega)) (i32s (by omega) (by omega)) L1.1 w1 L1.2.2.1.1 L1.2.2.1.2.1 L1.2.2.1.2.2.1 (by omega)).mono (fun M3 t => ?_)
  obtain ⟨o2, m2, l2, p2, e2, s2, x2⟩ := t
  obtain ⟨L2, gI2, aI2⟩ := L1.kn (by omega) m2 l2 p2 e2 s2 x2 (by omega) (Or.inl ⟨rfl, by omega, by omega⟩) (fun z => by omega)
  obtain ⟨G2, q30, q32, q34⟩ := ge_kn (R := R) (W := W + 1) (C := C) (Z := Z) (T := T2) w1 hg m2
  have I2 : iF M a g M3 := I1.trans (iF.mk w1 m2 (fun q hq => knP_it hq) (fun _ z => z.elim) (fun i _ _ _ => by rw [aI2]))
  refine ⟨o2, o2, I2, ?_⟩
  have e16 : mI M3 a 16 = mI M2 a 16 := by rw [aI2, aI1]
  by_cases z16 : mI M3 a 16 = 0
  · refine Or.inr ⟨z16, T2, K + 1, R, W + 1, C, Z, E, tg, ⟨L2, ⟨by rw [gI2, x6], by rw [gI2, x12]; omega, by rw [gI2, g1, if_neg (by omega), g18], by rw [gI2, g1, if_neg (by omega), g17]⟩, ⟨?_, ?_, ?_⟩, by omega, ?_⟩, hTe, hZe⟩
    · rw [q30, (m1.lst (n30 hg) (fun z => z)).1, z30, y30]
    · rw [q32, (m1.lst (n32 hg) (fun z => z)).1, z32, y32]
    · rw [q34, (m1.lst (n34 hg) (fun z => z)).1, z34, y34]
    · have hv := hv (by rw [← e16]; exact z16)
      have D9 := ((hD.ge G9).tu hT).vu hW ⟨hv.1, hv.2.1, hv.2.2.1, hv.2.2.2.1, hv.2.2.2.2, by rw [c18]; exact hb⟩
      have G1 : Ge M2 g R (W + 1) C Z T2 M1 := ge_mv w9 hg m1 no (fun z => z) (fun z => z) (fun i i1 i2 (z : g + i = g) => by omega) (fun n _ => ⟨(m1.lst (tL_in (q := g + 1) hg (by omega)) (fun z => z)).2.1 n, (m1.lst (tL_in (q := g + 7) hg (by omega)) (fun z => z)).2.1 n, (m1.lst (tL_in (q := g + 9) hg (by omega)) (fun z => z)).2.1 n, (m1.lst (tL_in (q := g + 11) hg (by omega)) (fun z => z)).2.1 n⟩)
      exact (D9.ge G1).ge G2
  · exact Or.inl z16
theorem vI.ev (h : vI M a g N T K R W C Z bl T2 M2) (hD : Dg M g R W C Z T E tg) (hT : T2 ≤ 16384) : Ev False M2 a g R W T2 := by
  obtain ⟨L, -, -, -, -, -, G⟩ := h
  have D := hD.ge G
  exact ⟨L.1, L.2.1.1.1, L.2.2.2.2.2.1, L.2.2.2.1, ⟨D.1.1, D.1.2.1, hT⟩, fun r hr => ⟨D.2.1 r hr, fun z => z.elim⟩, fun z => z.elim⟩
/-- the first value -/
theorem s_vi369 {k e i : Nat} {l6 l10 : Int} (h : Df M a g N T K R W C Z E tg) (hW : W < 12) (hk : k + 1 < N) (hi : i < N) (hi1 : l6 ≠ 0 → i + 1 < N) (v2 : vI M a g N T K R W C Z bl T2 M2) (hTe : T2 ≤ e) (hZe : Z ≤ e) (hT16 : T2 ≤ 16384) (il6 : i32 l6) (il10 : i32 l10) (hb : bl = 0 ∨ bl = 1) (hv : mI M2 a 16 = 0 → (bl ≠ 0 → mI M2 (g + 19) W = 0 ∧ mI M2 (g + 20) W = 1) ∧ mI M2 (g + 19) W ≤ mI M2 (g + 20) W ∧ -1000000000 < mI M2 (g + 19) W ∧ mI M2 (g + 20) W < 1000000000) (hf : l6 ≠ 0 → ∃ n : Nat, l10 = n ∧ Cte M2 g R W T2 n bl) : h_MM_varItem_369 G (d + 7) a k W i l6 l10 M2 (fun M' => mOk M' ∧ itQ M a g N e M') := by
  have hN := h.1.2.1.1.2.2
  have hg := h.1.2.2.2.2.2.1
  have L2 := v2.1
  have w2 := L2.2.1.1.1
  have b14 := (w2.gp hg).2.2.2.2.1.2.1
  have b16 := (w2.gp hg).2.2.2.2.1.2.2.2
  refine k_MM_varItem_369 L2.1 (i32s (by omega) (by omega)) (i32s (by omega) (by omega)) (i32s (by omega) (by omega)) il6 il10 ?_
  rw [show mR M2 a 10 = g from L2.2.2.2.2.1, show mR M2 g 14 = g + 19 from (w2.gp hg).2.2.1.2.1, show mR M2 g 16 = g + 21 from (w2.gp hg).2.2.1.2.2.2.1, Int.toNat_natCast]
  refine ⟨w2.1.1, (w2.gp hg).1, b14.1, by rw [b14.2]; omega, b16.1, by rw [b16.2]; omega, fun M3 e3 => ?_⟩
  obtain ⟨v3, f3, a3⟩ := v2.st (i := 21) (L2.1 _ _).1 (by omega) (by decide) (by decide) e3
  have c18 : mI M3 (g + 18) W = bl := v3.2.2.2.2.1
  have c19 : mI M3 (g + 19) W = mI M2 (g + 19) W := by rw [f3, if_neg (fun z => by omega)]
  have c20 : mI M3 (g + 20) W = mI M2 (g + 20) W := by rw [f3, if_neg (fun z => by omega)]
  have c21 : mI M3 (g + 21) W = mI M2 (g + 19) W := by rw [f3, if_pos ⟨rfl, rfl⟩]
  have e16 : mI M3 a 16 = mI M2 a 16 := by rw [a3]
  refine ⟨fun q => s_vi410 hb h hW hk v3 hTe hZe (fun z => ?_), fun q => ?_⟩
  · have := hv (by rw [← e16]; exact z)
    rw [c18, c19, c20, c21]
    exact ⟨this.1, by omega, this.2.1, this.2.2.1, this.2.2.2⟩
  · have q1 : l6 ≠ 0 := fun z => q (Or.inl z)
    have q2 : mI M3 a 16 = 0 := Classical.byContradiction (fun z => q (Or.inr z))
    obtain ⟨n, hn, ct⟩ := hf q1
    subst hn
    clear hf q
    have hv := hv (by rw [← e16]; exact q2)
    have ct3 : Cte M3 g R W T2 n bl := ct.gn (ge_st (R := R) (W := W) (C := C) (Z := Z) (T := T2) hg (gsti L2 (L2.1 _ _).1 (by omega) (by decide) (by decide) (fun z => by omega) e3).2.2.2.1 f3 (by rw [e3]; rfl) (by omega) (fun _ _ => Nat.le_refl W) (by omega) (by omega)).1 h.2.2.2.2.1.1
    rw [show (i : Int) + 1 = ((i + 1 : Nat) : Int) by omega]
    refine (s_MM_begins (d := d + 1) v3.1 (v3.ev h.2.2.2.2 hT16) ct3 hW (fun z => by omega) (fun z => by omega) (hi1 q1)).mono (fun M4 t4 => ⟨t4.1, ?_⟩)
    obtain ⟨-, M5, x, E5, ix, e4, hx⟩ := t4
    have v5 := v3.eo E5
    obtain ⟨v4, f4, a4⟩ := v5.st (i := 21) ix (by omega) (by decide) (by decide) e4
    have w3 := v3.1.2.1.1.1
    have hin : ∀ q, q = a + 99 → q ∈ nums a := fun q hq => by rw [hq]; exact n99
    have keep : ∀ (j : Nat), j ≤ 29 → frO (13 + j) → frO (49 + j) → mI M5 (g + j) = mI M3 (g + j) := fun j j1 f1 f2 => (E5.1.cellL w3 hin (goffx hg f1 f2) (fun z => by
      have : g + j = a ∨ g + j = a + 97 ∨ g + j = a + 98 ∨ g + j = a + 102 ∨ g + j = a + 103 ∨ g + j = a + 104 := z
      omega)).1
    have d18 : mI M4 (g + 18) W = bl := v4.2.2.2.2.1
    have d19 : mI M4 (g + 19) W = mI M2 (g + 19) W := by rw [f4, if_neg (fun z => by omega), keep 19 (by omega) (by decide) (by decide), c19]
    have d20 : mI M4 (g + 20) W = mI M2 (g + 20) W := by rw [f4, if_neg (fun z => by omega), keep 20 (by omega) (by decide) (by decide), c20]
    have d21 : mI M4 (g + 21) W = x := by rw [f4, if_pos ⟨rfl, rfl⟩]
    refine s_vi410 hb h hW hk v4 hTe hZe (fun z => ?_)
    have hx := hx (by rw [← a4]; exact z)
    rw [c18, c19, c20] at hx
    rw [d18, d19, d20, d21]
    refine ⟨hv.1, ?_, ?_, hv.2.2.1, hv.2.2.2⟩
    · rcases hb with y | y
      · exact (hx.1 y).1
      · have := hx.2 (by omega); have := hv.1 (by omega); omega
    · rcases hb with y | y
      · exact (hx.1 y).2
      · have := hx.2 (by omega); have := hv.1 (by omega); omega
end VI2
