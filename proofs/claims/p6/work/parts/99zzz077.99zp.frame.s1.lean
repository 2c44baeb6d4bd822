section
/-! The reference: ruleItem. -/
section RI3
variable {G : mG} {d a g R W C Z T N K : Nat} {M : mM} {E : Nat → Nat} {tg : Int}
theorem s_ri187 {k T' : Nat} {v6 : Int} {E' : Nat → Nat} {M9 : mM} (h : Df M a g N T K R W C Z E tg) (hR : R < 60) (hk : k + 1 < N) (hT' : T' ≤ k + 20000) {e : Nat} (hTe : T' ≤ e) (hZe : Z ≤ e) (i6 : i32 v6) (L9 : Lc M9 a g N T' K) (I9 : iF M a g M9) (gI9 : mI M9 g = mI M g) (z30 : ln M9 (g + 30) = ln M (g + 30)) (z32 : ln M9 (g + 32) = ln M (g + 32)) (z34 : ln M9 (g + 34) = ln M (g + 34)) (h13 : mI M9 (g + 13) R = v6) (hD9 : mI M9 a 16 = 0 → Dg M9 g (R + 1) W C Z T' E' tg) : h_MM_ruleItem_187 G (d + 6) a k v6 R M9 (fun M' => mOk M' ∧ itQ M a g N e M') := by
  obtain ⟨hL, ⟨g6, g12, g18, g17⟩, ⟨y30, y32, y34⟩, hK, hD⟩ := id h
  have hN := hL.2.1.1.2.2
  have hg := hL.2.2.2.2.2.1
  have hW := hD.1
  have w9 := L9.2.1.1.1
  have d9 : mR M9 a 10 = g := L9.2.2.2.2.1
  refine k_MM_ruleItem_187 L9.1 (i32s (by omega) (by omega)) i6 (i32s (by omega) (by omega)) ?_
  rw [d9]
  refine ⟨w9.1.1, (w9.gp hg).1, i32s (by omega) (by omega), fun M1 e1 v hv => ?_⟩
  have a0 := goff0 hg
  obtain ⟨m1, f1, l1⟩ := mv_cell (v := (R : Int) + 1) (i32s (by omega) (by omega)) L9.1 w9 (show a ≤ g by omega) ⟨a0.1, a0.2.1, a0.2.2.1⟩ e1
  have no : ∀ q : Nat, False → q ∈ nums a := fun _ z => z.elim
  have aI1 := (m1.fld w9 no (by omega)).1
  have g1 : ∀ i, mI M1 g i = if i = 6 then (R : Int) + 1 else mI M g i := fun i => by
    rw [f1]
    by_cases z : i = 6
    · rw [if_pos ⟨rfl, z⟩, if_pos z]
    · rw [if_neg (fun y => z y.2), if_neg z, gI9]
  have x6 : mI M1 g 6 = (R : Int) + 1 := by rw [g1, if_pos rfl]
  have x12 : mI M1 g 12 = W := by rw [g1, if_neg (by omega), g12]
  have L1 : Lc M1 a g N T' K := L9.mv m1 no (fun _ z => z.elim) (by rw [x6, gI9, g6]; omega) (by rw [x12, gI9, g12]; omega) ⟨by omega, by omega⟩ (fun r _ => by rw [f1, if_neg (fun z => by omega)])
  have I1 : iF M a g M1 := I9.trans (iF.mk w9 m1 (fun _ z => z.elim) (fun x z => Or.inr (Or.inl (by omega))) (fun i _ _ _ => by rw [aI1]))
  have w1 := m1.2.1
  have hK2 : K ≤ 72 := by omega
  have hv' : v = 1 ∨ v = 2 := by split at hv <;> omega
  refine (s_MM_know (d := d + 5) (u := (k : Int) + 1) (i32s (by omega) (by omega)) (i32s (by omega) (by omega)) (i32s (by omega) (by omega)) L1.1 w1 L1.2.2.1.1 L1.2.2.1.2.1 L1.2.2.1.2.2.1 (by omega)).mono (fun M2 t => ?_)
  obtain ⟨o2, m2, l2, p2, e2, s2, x2⟩ := t
  obtain ⟨L2, gI2, aI2⟩ := L1.kn (by omega) m2 l2 p2 e2 s2 x2 (by omega) (Or.inr ⟨hv', by omega, by omega⟩) (fun z => by
    rw [Int.toNat_natCast, f1, if_neg (fun y => by omega), h13]
    split at hv <;> omega)
  obtain ⟨G2, q30, q32, q34⟩ := ge_kn (R := R + 1) (W := W) (C := C) (Z := Z) (T := T') w1 hg m2
  have I2 : iF M a g M2 := I1.trans (iF.mk w1 m2 (fun q hq => knP_it hq) (fun _ z => z.elim) (fun i _ _ _ => by rw [aI2]))
  have no2 : ∀ q : Nat, ¬ False := fun _ z => z
  refine ⟨o2, o2, I2, ?_⟩
  have e16 : mI M2 a 16 = mI M9 a 16 := by rw [aI2, aI1]
  by_cases z16 : mI M2 a 16 = 0
  · refine Or.inr ⟨z16, T', K + 1, R + 1, W, C, Z, E', tg, ⟨L2, ⟨by rw [gI2, x6]; omega, by rw [gI2, x12], by rw [gI2, g1, if_neg (by omega), g18], by rw [gI2, g1, if_neg (by omega), g17]⟩, ⟨?_, ?_, ?_⟩, by omega, ?_⟩, hTe, hZe⟩
    · rw [q30, (m1.lst (n30 hg) (fun z => z)).1, z30, y30]
    · rw [q32, (m1.lst (n32 hg) (fun z => z)).1, z32, y32]
    · rw [q34, (m1.lst (n34 hg) (fun z => z)).1, z34, y34]
    · have D9 := hD9 (by rw [← e16]; exact z16)
      have G1 : Ge M9 g (R + 1) W C Z T' M1 := ge_mv w9 hg m1 no (fun z => z) (fun z => z) (fun i i1 i2 (z : g + i = g) => by omega) (fun n _ => ⟨(m1.lst (tL_in (q := g + 1) hg (by omega)) (fun z => z)).2.1 n, (m1.lst (tL_in (q := g + 7) hg (by omega)) (fun z => z)).2.1 n, (m1.lst (tL_in (q := g + 9) hg (by omega)) (fun z => z)).2.1 n, (m1.lst (tL_in (q := g + 11) hg (by omega)) (fun z => z)).2.1 n⟩)
      exact (D9.ge G1).ge G2
  · exact Or.inl z16
/-- a new rule's numbers are stored -/
def riS (M : mM) (a g N T K R W C Z T' f : Nat) (co v6 x3 : Int) (M6 : mM) : Prop := Lc M6 a g N T' K ∧ iF M a g M6 ∧ mI M6 g = mI M g ∧ (ln M6 (g + 30) = ln M (g + 30) ∧ ln M6 (g + 32) = ln M (g + 32) ∧ ln M6 (g + 34) = ln M (g + 34)) ∧ Ge M g R W C Z T M6 ∧ mI M6 (g + 13) R = v6 ∧ mI M6 (g + 15) R = (T : Int) ∧ tn M6 g R = x3 ∧ ∀ F : Prop, (co = 0 → F) → Ty (nme F M6 g R W) (tn M6 g) M6 g f 0 T T' (fun _ => x3)
theorem ri_a {T' : Nat} {co v6 x3 : Int} {M3 M4 M5 M6 : mM} (h : Df M a g N T K R W C Z E tg) (hR : R < 60) (t1 : T < T') (Rl : rlR co M a g N T K T' x3 M3) (z16 : mI M3 a 16 = 0) (c6 : v6 = 0 ∨ v6 = 1) (e4 : M4 = mUI M3 (g + 13) R v6) (e5 : M5 = mUI M4 (g + 14) R x3) (e6 : M6 = mUI M5 (g + 15) R (T : Int)) : (∃ f, riS M a g N T K R W C Z T' f co v6 x3 M6) ∧ Lc M4 a g N T' K ∧ Lc M5 a g N T' K := by
  obtain ⟨hL, ⟨g6, g12, g18, g17⟩, -, -, hD⟩ := h
  have hg := hL.2.2.2.2.2.1
  have hBd := hD.1.1
  have hT3 := Rl.2.1.2.2.2.2.2.2.2
  obtain ⟨I3, G3, z30, z32, z34⟩ := rlR.ge (R := R) (W := W) (C := C) (Z := Z) hL Rl
  have G3 := G3 z16
  obtain ⟨-, R2, -, R4, R5, R6⟩ := Rl
  have gI3 : mI M3 g = mI M g := R4
  obtain ⟨f, ty⟩ : ∃ f, Ty (nmr co M g) (tn M g) M3 g f 0 T T' (fun _ => x3) := by
    rcases R6 with y | ⟨-, y, -⟩
    · exact absurd z16 y
    · exact y
  clear R6
  have g63 : mI M3 g 6 ≤ R := by rw [gI3, g6]; omega
  obtain ⟨L4, I4, ⟨gI4, aI4⟩, m4, f4, l4⟩ := gsti R2 (i := 13) (i32s (by omega) (by omega)) (by omega) (by decide) (by decide) (fun _ => g63) e4
  have G4 := ge_st (R := R) (W := W) (C := C) (Z := Z) (T := T') hg m4 f4 l4 (fun _ => Nat.le_refl R) (by omega) (by omega) (by omega)
  obtain ⟨L5, I5, ⟨gI5, aI5⟩, m5, f5, l5⟩ := gsti L4 (i := 14) (i32s (by omega) (by omega)) (by omega) (by decide) (by decide) (fun z => by omega) e5
  have G5 := ge_st (R := R) (W := W) (C := C) (Z := Z) (T := T') hg m5 f5 l5 (fun _ => Nat.le_refl R) (by omega) (by omega) (by omega)
  obtain ⟨L6, I6, ⟨gI6, aI6⟩, m6, f6, l6⟩ := gsti L5 (i := 15) (i32s (by omega) (by omega)) (by omega) (by decide) (by decide) (fun z => by omega) e6
  have G6 := ge_st (R := R) (W := W) (C := C) (Z := Z) (T := T') hg m6 f6 l6 (fun _ => Nat.le_refl R) (by omega) (by omega) (by omega)
  have G36 := (G4.trans G5).trans G6
  have G06 := G3.trans (G36.down (Nat.le_refl _) (Nat.le_refl _) (Nat.le_refl _) (Nat.le_refl _) (Nat.le_of_lt t1))
  have c13 : mI M6 (g + 13) R = v6 := by rw [f6, if_neg (fun z => by omega), f5, if_neg (fun z => by omega), f4, if_pos ⟨rfl, rfl⟩]
  have c14 : mI M6 (g + 14) R = x3 := by rw [f6, if_neg (fun z => by omega), f5, if_pos ⟨rfl, rfl⟩]
  have c15 : mI M6 (g + 15) R = (T : Int) := by rw [f6, if_pos ⟨rfl, rfl⟩]
  have tn6 : tn M6 g R = x3 := by
    unfold tn
    rw [if_neg (show ¬ (100 : Int) ≤ (R : Int) by omega), Int.toNat_natCast, c14]
    split <;> omega
  have gI06 : mI M6 g = mI M g := by rw [gI6, gI5, gI4, gI3]
  have y0 : ∀ {q}, q ∈ nums a → ln M6 q = ln M3 q := fun hq => by rw [(m6.lst hq (fun z => z)).1, (m5.lst hq (fun z => z)).1, (m4.lst hq (fun z => z)).1]
  refine ⟨⟨f, L6, ((I3.trans I4).trans I5).trans I6, gI06, ⟨by rw [y0 (n30 hg), z30], by rw [y0 (n32 hg), z32], by rw [y0 (n34 hg), z34]⟩, G06, c13, c15, tn6, fun F hF => ?_⟩, L4, L5⟩
  clear c13 c14 c15 tn6 y0 f4 f5 f6 m4 m5 m6 L4 L5 L6 I3 I4 I5 I6 l4 l5 l6 G4 G5 G6 G3
  refine (ty.mono (nm' := nme F M6 g R W) (w' := tn M6 g) (fun v hv => ?_)).fr (fun n _ n2 => ⟨(G36.1.1 n n2).1, (G36.1.1 n n2).2.1, (G36.1.1 n n2).2.2.1⟩) (fun n _ n2 => (G36.1.1 n n2).2.2.2) (fun z => absurd rfl z)
  unfold nmr at hv
  rw [g6, g12] at hv
  rcases hv with ⟨h1, h2, h3, h4⟩ | ⟨h1, h2, h3, h4⟩
  · have gt := G06.1.tr (r := v.toNat) hBd (by omega)
    rw [show ((v.toNat : Nat) : Int) = v by omega] at gt
    refine ⟨Or.inl ⟨h1, h2, ?_⟩, gt⟩
    by_cases z : co = 0
    · exact Or.inl (hF z)
    · right
      rw [(G06.1.2.1 v.toNat (by omega)).1]
      exact h4 z
  · exact ⟨Or.inr ⟨hF h1, h2, h3⟩, G06.1.tv h2 h3⟩
/-- a formula -/
theorem s_ri_f {k e T' f : Nat} {x3 v6 : Int} {M6 : mM} (h : Df M a g N T K R W C Z E tg) (hR : R < 60) (hk : k + 1 < N) (t1 : T < T') (hT' : T' ≤ k + 20000) (hTe : T' ≤ e) (hZe : Z ≤ e) (i6 : i32 v6) (z0 : v6 ≠ 0) (S6 : riS M a g N T K R W C Z T' f 0 v6 x3 M6) : h_MM_ruleItem_187 G (d + 6) a k v6 R M6 (fun M' => mOk M' ∧ itQ M a g N e M') := by
  obtain ⟨L6, I6, gI6, ⟨z30, z32, z34⟩, G6, c13, c15, tn6, ty6⟩ := S6
  have D6 := h.2.2.2.2.ge G6
  refine s_ri187 h hR hk hT' hTe hZe i6 L6 I6 gI6 (E' := fun r => if r = R then T' else E r) z30 z32 z34 c13 (fun y16 => ?_)
  refine (D6.tu (Nat.le_of_lt t1)).ru hR (fun r hr => if_neg (by omega)) (fun z => absurd (c13.symm.trans z) z0) (fun _ => ⟨T, f, c15, by rw [if_pos rfl]; exact Nat.le_refl _, fun r' hr' z' => ?_, ?_⟩)
  · rw [if_neg (by omega)]
    obtain ⟨n, f', -, q2, -⟩ := D6.2.2.1 r' hr' z'
    exact q2
  · rw [if_pos rfl, tn6]
    exact ty6 True (fun _ => trivial)
/-- a constant -/
theorem s_ri_c {k e T' f : Nat} {co x3 v6 : Int} {M6 : mM} (h : Df M a g N T K R W C Z E tg) (hR : R < 60) (hk : k + 1 < N) (t1 : T < T') (hT' : T' ≤ k + 20000) (hT16 : T' ≤ 16384) (hTe : T' ≤ e) (hZe : Z ≤ e) (i6 : i32 v6) (z0 : v6 = 0) (hco : co ≠ 0) (S6 : riS M a g N T K R W C Z T' f co v6 x3 M6) : Cv G y_MM_workOut (d + 6) [vr a, vr (mR M6 a 10), vi T] M6 (fun M63 => mOk M63 ∧ (mK M63 a = 14 ∧ mK M63 (mR M63 a 10) = 16 ∧ mK M63 (mR M63 a 21) = 33 ∧ ((0 : Int) ≤ 0 ∧ 0 < (mN M63 (mR M63 a 21) : Int)) ∧ mK M63 (mR M63 (mR M63 a 10) 10) = 33 ∧ ((0 : Int) ≤ R ∧ (R : Int) < (mN M63 (mR M63 (mR M63 a 10) 10) : Int)) ∧ ∀ M72, M72 = mUL M63 (mR M63 (mR M63 a 10) 10) R (mL M63 (mR M63 a 21) 0) → mK M72 (mR M72 a 10) = 16 ∧ mK M72 (mR M72 a 22) = 33 ∧ ((0 : Int) ≤ 0 ∧ 0 < (mN M72 (mR M72 a 22) : Int)) ∧ mK M72 (mR M72 (mR M72 a 10) 11) = 33 ∧ ((0 : Int) ≤ R ∧ (R : Int) < (mN M72 (mR M72 (mR M72 a 10) 11) : Int)) ∧ ∀ M79, M79 = mUL M72 (mR M72 (mR M72 a 10) 11) R (mL M72 (mR M72 a 22) 0) → h_MM_ruleItem_187 G (d + 6) a k v6 R M79 (fun M' => mOk M' ∧ itQ M a g N e M'))) := by
  obtain ⟨L6, I6, gI6, ⟨z30, z32, z34⟩, G6, c13, c15, tn6, ty6⟩ := S6
  have hg := L6.2.2.2.2.2.1
  have hD := h.2.2.2.2
  have hBd := hD.1
  have D6 := hD.ge G6
  have w6 := L6.2.1.1.1
  have EV : Ev False M6 a g R W T' := ⟨L6.1, w6, hg, L6.2.2.2.1, ⟨hBd.1, hBd.2.1, hT16⟩, fun r hr => ⟨D6.2.1 r hr, fun z => z.elim⟩, fun z => z.elim⟩
  rw [show mR M6 a 10 = g from L6.2.2.2.2.1]
  refine (s_MM_workOut (d := d + 2) (E := E) (b := R) EV (fun z => z.elim) (Nat.le_refl _) (fun r hr z => ?_) (ty6 False (fun z => absurd z hco)) (Nat.le_refl _)).mono (fun M7 t7 => ?_)
  · obtain ⟨n, f', -, q2, -⟩ := D6.2.2.1 r hr z
    exact q2
  clear ty6 EV
  obtain ⟨o7, E7, v7⟩ := t7
  obtain ⟨L7, gI7, G7, q30, q32, q34⟩ := E7.lc (R := R) (W := W) (C := C) (Z := Z) L6
  have w7 := L7.2.1.1.1
  have d7 : mR M7 a 10 = g := L7.2.2.2.2.1
  rw [d7, show mR M7 a 21 = a + 97 from (w7.1.2.2.2.2.1.2.2.2.2.2.2).1, show mR M7 g 10 = g + 16 from (w7.gp hg).2.1.2.2.2.2.2.2.2.2.2.1]
  have b16 := (w7.gp hg).2.2.2.1.2.2.2.1
  refine ⟨o7, w7.1.1, (w7.gp hg).1, (w7.1.2.2.2.2.2.2.2.1).1.1, by rw [(w7.1.2.2.2.2.2.2.2.1).1.2]; decide, b16.1, by rw [b16.2]; omega, fun M8 e8 => ?_⟩
  obtain ⟨L8, I8, i8, m8, f8⟩ := gstl L7 (L7.1 _ _).2 (Or.inl rfl) e8
  have G8 := ge_sl (R := R) (W := W) (C := C) (Z := Z) (T := T') hg m8 f8 i8 (Nat.le_refl R)
  have w8 := L8.2.1.1.1
  have d8 : mR M8 a 10 = g := L8.2.2.2.2.1
  rw [d8, show mR M8 a 22 = a + 98 from (w8.1.2.2.2.2.1.2.2.2.2.2.2).2.1, show mR M8 g 11 = g + 17 from (w8.gp hg).2.1.2.2.2.2.2.2.2.2.2.2]
  have b17 := (w8.gp hg).2.2.2.1.2.2.2.2
  refine ⟨(w8.gp hg).1, (w8.1.2.2.2.2.2.2.2.1).2.1.1, by rw [(w8.1.2.2.2.2.2.2.2.1).2.1.2]; decide, b17.1, by rw [b17.2]; omega, fun M9 e9 => ?_⟩
  obtain ⟨L9, I9, i9, m9, f9⟩ := gstl L8 (L8.1 _ _).2 (Or.inr rfl) e9
  have G9 := ge_sl (R := R) (W := W) (C := C) (Z := Z) (T := T') hg m9 f9 i9 (Nat.le_refl R)
  have h813 : mI M9 (g + 13) R = v6 := by rw [i9, i8, (E7.gs w6).1, c13]
  have t9 : tn M9 g R = x3 := by
    rw [← tn6]
    unfold tn
    rw [if_neg (show ¬ (100 : Int) ≤ (R : Int) by omega), if_neg (show ¬ (100 : Int) ≤ (R : Int) by omega), i9, i8, (E7.gs w6).2.1]
  have a9 : mL M9 (g + 16) R = mL M7 (a + 97) 0 := by rw [f9, if_neg (fun z => by omega), f8, if_pos ⟨rfl, rfl⟩]
  have b9 : mL M9 (g + 17) R = mL M8 (a + 98) 0 := by rw [f9, if_pos ⟨rfl, rfl⟩]
  have b8 : mL M8 (a + 98) 0 = mL M7 (a + 98) 0 := by rw [f8, if_neg (fun z => by omega)]
  refine s_ri187 h hR hk hT' hTe hZe i6 L9 (((I6.trans (E7.it w6)).trans I8).trans I9) (by rw [i9, i8, gI7, gI6]) (E' := E) ?_ ?_ ?_ h813 (fun y16 => ?_)
  · rw [(m9.lst (n30 hg) (fun z => z)).1, (m8.lst (n30 hg) (fun z => z)).1, q30, z30]
  · rw [(m9.lst (n32 hg) (fun z => z)).1, (m8.lst (n32 hg) (fun z => z)).1, q32, z32]
  · rw [(m9.lst (n34 hg) (fun z => z)).1, (m8.lst (n34 hg) (fun z => z)).1, q34, z34]
  · rw [i9, i8] at y16
    rcases v7 with y | ⟨-, v7⟩
    · exact absurd y16 y
    have D9 := ((((D6.tu (Nat.le_of_lt t1)).ge G7).ge G8).ge G9)
    refine D9.ru hR (fun _ _ => rfl) (fun _ => ?_) (fun z => absurd (h813.trans z0) z)
    rw [t9, a9, b9, b8]
    exact v7
theorem s_MM_ruleItem {k e : Nat} (h : Df M a g N T K R W C Z E tg) (hw : wk M a k = 3 ∨ wk M a k = 6) (he6 : Eo (wk M a) 6 (k + 3) e) (he : e < N) (hT : T ≤ k) (hZ : Z ≤ k) : Cv G y_MM_ruleItem (d + 7) [vr a, vi k, vi e] M (fun M' => mOk M' ∧ itQ M a g N (e + 1) M') := by
  obtain ⟨hL, ⟨g6, g12, g18, g17⟩, ⟨y30, y32, y34⟩, hK, hD⟩ := id h
  obtain ⟨hO, hx, hnm, hd, h10, hg, hB, -⟩ := id hL
  have w := hx.1.1
  have hN := hx.1.2.2
  have hke := he6.pr.1
  have hBd := hD.1
  refine k_MM_ruleItem hO (i32s (by omega) (by omega)) (i32s (by omega) (by omega)) ⟨w.1.1, hL.wd (d := d + 5) (by omega) (fun x hx0 ix => ⟨ix, hO, fun v6 hv6 => ⟨w.1.1, ?_⟩⟩)⟩
  have c6 : v6 = 0 ∨ v6 = 1 := by split at hv6 <;> omega
  clear hv6
  rw [h10, g6]
  refine ⟨(w.gp hg).1, fun q => s_st_it (d := d + 5) (c := 5) (by decide) ⟨by decide, by decide⟩ hL (by omega), fun q => ?_⟩
  have hR : R < 60 := by omega
  rw [show (k : Int) + 1 = ((k + 1 : Nat) : Int) by omega, show (k : Int) + 3 = ((k + 3 : Nat) : Int) by omega]
  refine hL.fd (d := d + 3) (by omega) (fun r r0 r1 => ⟨i32s (by omega) (by omega), hO, fun q2 => ⟨w.1.1, ?_⟩, fun q2 => ⟨w.1.1, s_st_it (d := d + 5) (c := 2) (by decide) ⟨by decide, by decide⟩ hL (by omega)⟩⟩)
  rw [h10, g6]
  refine ⟨(w.gp hg).1, ?_⟩
  clear r0 r1 q2
  refine (s_MM_tree (d := d) hO hx hg h10 hd he6 he (by omega)).mono (fun r2 M2 t => ?_)
  obtain ⟨er, T', t1, t2, L2, t3, e2, m2, s2⟩ := tr_lc hL (by omega) t
  subst er
  have w2 := L2.2.1.1.1
  refine ⟨i32s (by omega) (by omega), L2.1, fun v33 hv33 => ⟨w2.1.1, (s_MM_look (d := d) (co := v33) (i32s (by split at hv33 <;> omega) (by split at hv33 <;> omega)) (fun v hv => ⟨hv.1, hv.2.1⟩) L2 t3 (Nat.le_refl _)).mono (fun x3 M3 q3 => ?_)⟩⟩
  have Rl := tl_rl hL L2 e2 m2 s2 q3
  clear q3 s2 m2 e2 t3 t
  have I3 := (rlR.ge (R := R) (W := W) (C := C) (Z := Z) hL Rl).1
  have R2 := Rl.2.1
  have R5 := Rl.2.2.2.2.1
  have w3 := R2.2.1.1.1
  have hb1 : T' ≤ k + 20000 := by omega
  have hb2 : T' ≤ 16384 := by omega
  have hb3 : T' ≤ e + 1 := by omega
  have hb4 : Z ≤ e + 1 := by omega
  have hk1 : k + 1 < N := by omega
  have i6 : i32 v6 := i32s (by omega) (by omega)
  have ix3 : i32 x3 := i32s (by omega) (by omega)
  have R60 : ((0 : Int) ≤ R ∧ (R : Int) < ((60 : Nat) : Int)) := by omega
  clear hB hBd hw hke hN t2 hd hnm y30 y32 y34 hK
  refine ⟨ix3, R2.1, w3.1.1, fun z16 => ?_, fun z16 => ⟨R2.1, I3, Or.inl z16⟩⟩
  rw [show mR M3 a 10 = g from R2.2.2.2.2.1, show mR M3 g 7 = g + 13 from (w3.gp hg).2.1.2.2.2.2.2.2.1, Int.toNat_natCast]
  have b13 := (w3.gp hg).2.2.2.1.1
  refine ⟨(w3.gp hg).1, b13.1, by rw [b13.2]; exact R60, fun M4 e4 => ?_⟩
  have La := fun M5 M6 e5 e6 => ri_a (M5 := M5) (M6 := M6) h hR t1 Rl z16 c6 e4 e5 e6
  have L4 := (La _ _ rfl rfl).2.1
  have w4 := L4.2.1.1.1
  rw [show mR M4 a 10 = g from L4.2.2.2.2.1, show mR M4 g 8 = g + 14 from (w4.gp hg).2.1.2.2.2.2.2.2.2.1]
  have b14 := (w4.gp hg).2.2.2.1.2.1
  refine ⟨(w4.gp hg).1, b14.1, by rw [b14.2]; exact R60, R5, fun M5 e5 => ?_⟩
  have L5 := (La M5 _ e5 rfl).2.2
  have w5 := L5.2.1.1.1
  rw [show mR M5 a 10 = g from L5.2.2.2.2.1, show mR M5 g 9 = g + 15 from (w5.gp hg).2.1.2.2.2.2.2.2.2.2.1]
  have b15 := (w5.gp hg).2.2.2.1.2.2.1
  refine ⟨(w5.gp hg).1, b15.1, by rw [b15.2]; exact R60, fun M6 e6 => ?_⟩
  obtain ⟨f, S6⟩ := (La M5 M6 e5 e6).1
  refine ⟨fun z0 => ?_, fun z0 => ?_⟩
  · exact s_ri_c h hR hk1 t1 hb1 hb2 hb3 hb4 i6 z0 (by rw [if_pos z0] at hv33; rw [hv33]; decide) S6
  · rw [if_neg z0] at hv33
    subst hv33
    exact s_ri_f h hR hk1 t1 hb1 hb3 hb4 i6 z0 S6
end RI3
end
section
/-! The reference: whole numbers and first values of variables. -/
section VI
variable {G : mG} {d a g R W C Z T N K : Nat} {M M2 M3 : mM} {E : Nat → Nat} {F : Prop}
theorem rwd_all {w : Nat → Int} {c i j m : Nat} (h : Eo w c i j) (h1 : i ≤ m) (h2 : m < j) : rwd (w m) := by
  have := (h.pr.2.2.2.2.1.2.2.2 (m - i) (by omega)).1
  rw [show i + (m - i) = m by omega] at this
  exact this
theorem s_MM_initOf {p i e : Nat} (h : Lc M a g N T K) (h1 : p ≤ i) (h2 : i ≤ e) (he : e < N) (hn : ∀ m, p ≤ m → m < i → wk M a m ≠ 9) (hi : i = e ∨ wk M a i = 9) : Ci G y_MM_initOf (d + 2) [vr a, vi p, vi e] M (fun x M' => M' = M ∧ x = i) := by
  have hN := h.2.1.1.2.2
  have w := h.2.1.1.1
  refine k_MM_initOf h.1 (i32s (by omega) (by omega)) (i32s (by omega) (by omega)) ?_
  suffices H : ∀ (c m : Nat), m + c = i → p ≤ m → h_MM_initOf_2 G (d + 1) a e m M (fun x M' => M' = M ∧ x = i) from H (i - p) p (by omega) (Nat.le_refl _)
  intro c
  induction c with
  | zero =>
    intro m hm hp
    have e1 : m = i := by omega
    subst e1
    refine k_MM_initOf_2 h.1 (i32s (by omega) (by omega)) (i32s (by omega) (by omega)) ⟨fun _ => ⟨rfl, rfl⟩, fun q => ⟨w.1.1, h.wd (d := d) (by omega) (fun z hz iz => ⟨iz, h.1, fun _ => ⟨rfl, rfl⟩, fun q2 => ?_⟩)⟩⟩
    rcases hi with y | y
    · omega
    · exact absurd (hz.trans y) q2
  | succ c ih =>
    intro m hm hp
    refine k_MM_initOf_2 h.1 (i32s (by omega) (by omega)) (i32s (by omega) (by omega)) ⟨fun q => by omega, fun q => ⟨w.1.1, h.wd (d := d) (by omega) (fun z hz iz => ⟨iz, h.1, fun q2 => absurd (hz.symm.trans q2) (hn m hp (by omega)), fun q2 => ?_⟩)⟩⟩
    have := ih (m + 1) (by omega) (by omega)
    rw [show ((m + 1 : Nat) : Int) = (m : Int) + 1 by omega] at this
    exact this
theorem nme.wk {v : Int} {b : Nat} (h : nme F M g b W v) : nme True M g b W v := by
  rcases h with ⟨h1, h2, -⟩ | ⟨-, h⟩
  · exact Or.inl ⟨h1, h2, Or.inl trivial⟩
  · exact Or.inr ⟨trivial, h⟩
theorem Gn.nm {v : Int} {b : Nat} (h : Gn M g R W T M2) (hb : b ≤ R) (hv : nme F M g b W v) : nme F M2 g b W v := by
  rcases hv with ⟨h1, h2, h3⟩ | h'
  · refine Or.inl ⟨h1, h2, h3.imp (fun z => z) (fun z => ?_)⟩
    rw [(h.2.1 v.toNat (by omega)).1]
    exact z
  · exact Or.inr h'
/-- a rule made of constants alone -/
def Cte (M : mM) (g R W T n : Nat) (t : Int) : Prop := ∃ f e : Nat, Ty (nme False M g R W) (tn M g) M g f 0 n e (fun _ => t) ∧ e ≤ T
theorem Cte.gn {n : Nat} {t : Int} (h : Cte M g R W T n t) (k : Gn M g R W T M2) (hR : R ≤ 60) : Cte M2 g R W T n t := by
  obtain ⟨f, e, h1, h2⟩ := h
  exact ⟨f, e, (h1.mono (nm' := nme False M2 g R W) (w' := tn M2 g) (fun v hv => ⟨k.nm (Nat.le_refl _) hv, k.tnm hR hv.wk (Nat.le_refl _)⟩)).fr (fun n _ n2 => ⟨(k.1 n (by omega)).1, (k.1 n (by omega)).2.1, (k.1 n (by omega)).2.2.1⟩) (fun n _ n2 => (k.1 n (by omega)).2.2.2) (fun z => absurd rfl z), h2⟩
theorem Cte.up {n T' : Nat} {t : Int} (h : Cte M g R W T n t) (hT : T ≤ T') : Cte M g R W T' n t := by
  obtain ⟨f, e, h1, h2⟩ := h
  exact ⟨f, e, h1, by omega⟩
theorem s_MM_wholeOf {n wd : Nat} (hL : Lc M a g N T K) (h : Ev False M a g R W T) (ht : Cte M g R W T n 0) (hwd : wd < N) : Ci G y_MM_wholeOf (d + 5) [vr a, vi n, vi wd] M (fun x M' => i32 x ∧ mOk M' ∧ EO False M a g R W T M' ∧ (mI M' a 16 = 0 → mI M a 16 = 0 ∧ -1000000000 < x ∧ x < 1000000000)) := by
  obtain ⟨f, e, ht, he⟩ := ht
  have w := h.2.1
  have hN := hL.2.1.1.2.2
  have hlt := ht.tn.lt
  have hB := h.2.2.2.2.1
  refine k_MM_wholeOf2 h.1 (i32s (by omega) (by omega)) (i32s (by omega) (by omega)) ⟨w.1.1, fun z16 => ?_, fun z16 => ⟨⟨by omega, by omega⟩, h.1, EO.refl h, fun q => absurd q z16⟩⟩
  rw [show mR M a 10 = g from hL.2.2.2.2.1]
  refine (s_MM_workOut (d := d) (E := fun _ => 0) (b := R) h (fun z => z.elim) (Nat.le_refl _) (fun _ _ _ => by omega) ht he).mono (fun M4 t4 => ?_)
  obtain ⟨o4, E4, v4⟩ := t4
  have w4 := E4.1.2.1
  have L4 := (E4.lc (R := R) (W := W) (C := 0) (Z := 0) hL).1
  rw [show mR M4 a 22 = a + 98 from (w4.1.2.2.2.2.1.2.2.2.2.2.2).2.1, show mR M4 a 21 = a + 97 from (w4.1.2.2.2.2.1.2.2.2.2.2.2).1]
  refine ⟨o4, w4.1.1, fun _ => ⟨(w4.1.2.2.2.2.2.2.2.1).2.1.1, by rw [(w4.1.2.2.2.2.2.2.2.1).2.1.2]; omega⟩, fun q => ⟨(w4.1.2.2.2.2.2.2.2.1).1.1, by rw [(w4.1.2.2.2.2.2.2.2.1).1.2]; omega, i32_w32, o4, E4, fun y16 => ⟨z16, ?_⟩⟩, fun q => ?_⟩
  · rcases v4 with y | ⟨-, y⟩
    · exact absurd y16 y
    · unfold vok at y
      rw [w32_id ⟨by omega, by omega⟩]
      omega
  · refine (s_MM_place0 (d := d + 3) o4 L4.2.1 hwd).mono (fun y M5 h5 => ?_)
    obtain ⟨e5, hy⟩ := h5
    subst e5
    have hy32 : i32 y := by rw [hy]; exact (o4 _ _).1
    refine ⟨hy32, o4, w4.1.1, (s_MM_stop ⟨by omega, by omega⟩ hy32 o4 w4).mono (fun M6 h6 => ?_)⟩
    obtain ⟨m6, f1, f2, f3⟩ := h6
    have w6 := m6.2.1
    rw [show mR M6 a 21 = a + 97 from (w6.1.2.2.2.2.1.2.2.2.2.2.2).1]
    exact ⟨m6.1, w6.1.1, (w6.1.2.2.2.2.2.2.2.1).1.1, by rw [(w6.1.2.2.2.2.2.2.2.1).1.2]; omega, i32_w32, m6.1, E4.step m6 (fun _ z => z.elim) (fun x z => Or.inl z) (fun i i1 i2 _ => f3 i i1 i2), fun q => by rw [f1] at q; exact absurd q (by decide)⟩
/-- a variable's first value is told -/
def beQ (M : mM) (a g R W T v : Nat) (M' : mM) : Prop := ∃ (M1 : mM) (x : Int), EO False M a g R W T M1 ∧ i32 x ∧ M' = mUI M1 (g + 21) v x ∧ (mI M1 a 16 = 0 → (mI M (g + 18) v = 0 → mI M (g + 19) v ≤ x ∧ x ≤ mI M (g + 20) v) ∧ (mI M (g + 18) v ≠ 0 → 0 ≤ x ∧ x ≤ 1))
theorem s_MM_begins {n wd v : Nat} {t : Int} (hL : Lc M a g N T K) (h : Ev False M a g R W T) (ht : Cte M g R W T n t) (hv : v < 12) (ht1 : mI M (g + 18) v ≠ 0 → t = 1) (ht0 : mI M (g + 18) v = 0 → t = 0) (hwd : wd < N) : Cv G y_MM_begins (d + 6) [vr a, vi v, vi n, vi wd] M (fun M' => mOk M' ∧ beQ M a g R W T v M') := by
  obtain ⟨f, e, hty, he⟩ := id ht
  have w := h.2.1
  have hg := h.2.2.1
  have hN := hL.2.1.1.2.2
  have hlt := hty.tn.lt
  have hB := h.2.2.2.2.1
  have hin : ∀ q, q = a + 99 → q ∈ nums a := fun q hq => by rw [hq]; exact n99
  have keep : ∀ (M1 : mM) (i : Nat), EO False M a g R W T M1 → i ≤ 29 → frO (13 + i) → frO (49 + i) → mI M1 (g + i) = mI M (g + i) := fun M1 i k i1 f1 f2 => (k.1.cellL w hin (goffx hg f1 f2) (fun z => by
    have : g + i = a ∨ g + i = a + 97 ∨ g + i = a + 98 ∨ g + i = a + 102 ∨ g + i = a + 103 ∨ g + i = a + 104 := z
    omega)).1
  refine k_MM_begins2 h.1 (i32s (by omega) (by omega)) (i32s (by omega) (by omega)) (i32s (by omega) (by omega)) ?_
  have b13 := (w.gp hg).2.2.2.2.1.1
  rw [show mR M a 10 = g from hL.2.2.2.2.1, show mR M g 13 = g + 18 from (w.gp hg).2.2.1.1, Int.toNat_natCast]
  refine ⟨w.1.1, (w.gp hg).1, b13.1, by rw [b13.2]; omega, fun z0 => ?_, fun z0 => ?_⟩
  · have t0 := ht0 z0
    subst t0
    refine (s_MM_wholeOf (d := d) hL h ht hwd).mono (fun x M7 t7 => ?_)
    obtain ⟨ix, o7, E7, v7⟩ := t7
    have w7 := E7.1.2.1
    have L7 := (E7.lc (R := R) (W := W) (C := 0) (Z := 0) hL).1
    have b14 := (w7.gp hg).2.2.2.2.1.2.1
    have b15 := (w7.gp hg).2.2.2.2.1.2.2.1
    have b16 := (w7.gp hg).2.2.2.2.1.2.2.2
    rw [show mR M7 a 10 = g from L7.2.2.2.2.1, show mR M7 g 14 = g + 19 from (w7.gp hg).2.2.1.2.1, show mR M7 g 15 = g + 20 from (w7.gp hg).2.2.1.2.2.1, show mR M7 g 16 = g + 21 from (w7.gp hg).2.2.1.2.2.2.1, keep M7 19 E7 (by omega) (by decide) (by decide), keep M7 20 E7 (by omega) (by decide) (by decide)]
    refine ⟨ix, o7, w7.1.1, fun _ => ⟨(w7.gp hg).1, b14.1, by rw [b14.2]; omega, fun _ => ⟨b15.1, by rw [b15.2]; omega⟩⟩, fun q => ?_, fun q => ⟨(w7.gp hg).1, b16.1, by rw [b16.2]; omega, fun M8 e8 => ⟨by rw [e8]; exact mOk_UI o7 ix, M7, x, E7, ix, e8, fun y16 => ⟨fun _ => by omega, fun y => absurd z0 y⟩⟩⟩⟩
    refine (s_MM_place0 (d := d + 4) o7 L7.2.1 hwd).mono (fun y M8 h8 => ?_)
    obtain ⟨e8, hy⟩ := h8
    subst e8
    have hy32 : i32 y := by rw [hy]; exact (o7 _ _).1
    refine ⟨hy32, o7, w7.1.1, (s_MM_stop ⟨by omega, by omega⟩ hy32 o7 w7).mono (fun M9 h9 => ?_)⟩
    obtain ⟨m9, f1, f2, f3⟩ := h9
    have w9 := m9.2.1
    have E9 := E7.step m9 (fun _ z => z.elim) (fun x z => Or.inl z) (fun i i1 i2 _ => f3 i i1 i2)
    have L9 := (E9.lc (R := R) (W := W) (C := 0) (Z := 0) hL).1
    have c16 := (w9.gp hg).2.2.2.2.1.2.2.2
    rw [show mR M9 a 10 = g from L9.2.2.2.2.1, show mR M9 g 16 = g + 21 from (w9.gp hg).2.2.1.2.2.2.1]
    exact ⟨m9.1, w9.1.1, (w9.gp hg).1, c16.1, by rw [c16.2]; omega, fun M10 e10 => ⟨by rw [e10]; exact mOk_UI m9.1 ix, M9, x, E9, ix, e10, fun y16 => by rw [f1] at y16; exact absurd y16 (by decide)⟩⟩
  · have t1 := ht1 z0
    subst t1
    refine (s_MM_workOut (d := d + 1) (E := fun _ => 0) (b := R) h (fun z => z.elim) (Nat.le_refl _) (fun _ _ _ => by omega) hty he).mono (fun M4 t4 => ?_)
    obtain ⟨o4, E4, v4⟩ := t4
    have w4 := E4.1.2.1
    have L4 := (E4.lc (R := R) (W := W) (C := 0) (Z := 0) hL).1
    have c16 := (w4.gp hg).2.2.2.2.1.2.2.2
    rw [show mR M4 a 10 = g from L4.2.2.2.2.1, show mR M4 g 16 = g + 21 from (w4.gp hg).2.2.1.2.2.2.1, show mR M4 a 21 = a + 97 from (w4.1.2.2.2.2.1.2.2.2.2.2.2).1]
    refine ⟨o4, w4.1.1, (w4.gp hg).1, (w4.1.2.2.2.2.2.2.2.1).1.1, by rw [(w4.1.2.2.2.2.2.2.2.1).1.2]; omega, c16.1, by rw [c16.2]; omega, fun M5 e5 => ⟨by rw [e5]; exact mOk_UI o4 i32_w32, M4, _, E4, i32_w32, e5, fun y16 => ⟨fun y => absurd y z0, fun _ => ?_⟩⟩⟩
    rcases v4 with y | ⟨-, y⟩
    · exact absurd y16 y
    · unfold vok at y
      rw [w32_id ⟨by omega, by omega⟩]
      omega
end VI
end
section
/-! The reference: a variable item, its end. -/
section VI2
variable {G : mG} {d a g R W C Z T T2 T3 N K : Nat} {M M2 M3 : mM} {E : Nat → Nat} {tg bl : Int}
/-- inside a variable item -/
def vI (M : mM) (a g N T K R W C Z : Nat) (bl : Int) (T2 : Nat) (M2 : mM) : Prop := Lc M2 a g N T2 K ∧ iF M a g M2 ∧ mI M2 g = mI M g ∧ (ln M2 (g + 30) = ln M (g + 30) ∧ ln M2 (g + 32) = ln M (g + 32) ∧ ln M2 (g + 34) = ln M (g + 34)) ∧ mI M2 (g + 18) W = bl ∧ T ≤ T2 ∧ Ge M g R W C Z T M2
theorem vI.step (h : vI M a g N T K R W C Z bl T2 M2) (hT : T2 ≤ T3) (L3 : Lc M3 a g N T3 K) (I : iF M2 a g M3) (gI : mI M3 g = mI M2 g) (z : ln M3 (g + 30) = ln M2 (g + 30) ∧ ln M3 (g + 32) = ln M2 (g + 32) ∧ ln M3 (g + 34) = ln M2 (g + 34)) (c18 : mI M3 (g + 18) W = mI M2 (g + 18) W) (k : Ge M2 g R W C Z T2 M3) : vI M a g N T K R W C Z bl T3 M3 := by
  obtain ⟨-, h2, h3, h4, h5, h6, h7⟩ := h
  exact ⟨L3, h2.trans I, gI.trans h3, ⟨z.1.trans h4.1, z.2.1.trans h4.2.1, z.2.2.trans h4.2.2⟩, c18.trans h5, by omega, h7.trans (k.down (Nat.le_refl _) (Nat.le_refl _) (Nat.le_refl _) (Nat.le_refl _) h6)⟩
theorem vI.rl {co r : Int} (h : vI M a g N T K R W C Z bl T2 M2) (hT : T2 ≤ T3) (q : rlR co M2 a g N T2 K T3 r M3) (z : mI M3 a 16 = 0) : vI M a g N T K R W C Z bl T3 M3 := by
  obtain ⟨I3, G3, z3⟩ := rlR.ge (R := R) (W := W) (C := C) (Z := Z) h.1 q
  have hg := h.1.2.2.2.2.2.1
  have o18 := goffx (i := 18) hg (by decide) (by decide)
  have c18 := q.1.cell h.1.2.1.1.1 (fun q hq => rlP_in hg hq) o18.1 o18.2.1 o18.2.2 (by omega)
  exact h.step hT q.2.1 I3 q.2.2.2.1 z3 (by rw [c18]) (G3 z)
theorem vI.eo {F : Prop} {R' W' T' : Nat} (h : vI M a g N T K R W C Z bl T2 M2) (k : EO F M2 a g R' W' T' M3) : vI M a g N T K R W C Z bl T2 M3 := by
  obtain ⟨L3, g3, G3, z3⟩ := k.lc (R := R) (W := W) (C := C) (Z := Z) h.1
  have w2 := h.1.2.1.1.1
  exact h.step (Nat.le_refl _) L3 (k.it w2) g3 z3 (by rw [(k.gs w2).2.2.2.1]) G3
theorem vI.st {i : Nat} {v : Int} (h : vI M a g N T K R W C Z bl T2 M2) (hv : i32 v) (hi : i = 19 ∨ i = 20 ∨ i = 21) (f1 : frO (13 + i)) (f2 : frO (49 + i)) (e : M3 = mUI M2 (g + i) W v) : vI M a g N T K R W C Z bl T2 M3 ∧ (∀ y k, mI M3 y k = if y = g + i ∧ k = W then v else mI M2 y k) ∧ mI M3 a = mI M2 a := by
  obtain ⟨L3, I3, ⟨g3, a3⟩, m3, f3, l3⟩ := gsti h.1 hv (by omega) f1 f2 (fun z => by omega) e
  have hg := h.1.2.2.2.2.2.1
  have G3 := ge_st (R := R) (W := W) (C := C) (Z := Z) (T := T2) hg m3 f3 l3 (by omega) (fun _ _ => Nat.le_refl W) (by omega) (by omega)
  refine ⟨h.step (Nat.le_refl _) L3 I3 g3 ⟨(m3.lst (n30 hg) (fun z => z)).1, (m3.lst (n32 hg) (fun z => z)).1, (m3.lst (n34 hg) (fun z => z)).1⟩ ?_ G3, f3, a3⟩
  rw [f3, if_neg (fun z => by omega)]
theorem Lc.sp {P S : Nat → Prop} (h : Lc M a g N T K) (m : Mv P S M a M2) (hP : ∀ q, P q → False) (hS : ∀ x, S x → x = a) : Lc M2 a g N T K ∧ mI M2 g = mI M g ∧ Ge M g R W C Z T M2 ∧ (ln M2 (g + 30) = ln M (g + 30) ∧ ln M2 (g + 32) = ln M (g + 32) ∧ ln M2 (g + 34) = ln M (g + 34)) ∧ mI M2 (g + 18) = mI M (g + 18) := by
  have hg := h.2.2.2.2.2.1
  have hB := h.2.2.2.2.2.2.1
  have w := h.2.1.1.1
  have hin : ∀ q, P q → q ∈ nums a := fun q hq => (hP q hq).elim
  have ns : ∀ i, i ≤ 29 → ¬ S (g + i) := fun i i1 z => by
    have := hS _ z
    omega
  have gI := m.gI w hg hin (ns 0 (by omega))
  have o13 := goffx (i := 13) hg (by decide) (by decide)
  have c13 := m.cell w hin o13.1 o13.2.1 o13.2.2 (ns 13 (by omega))
  have o18 := goffx (i := 18) hg (by decide) (by decide)
  have c18 := m.cell w hin o18.1 o18.2.1 o18.2.2 (ns 18 (by omega))
  exact ⟨h.mv m hin (fun q hq => (hP q hq).elim) (by rw [gI]; omega) (by rw [gI]; omega) (by rw [gI]; omega) (fun r _ => by rw [c13]), gI, ge_mv w hg m hin (fun z => hP _ z) (fun z => hP _ z) (fun i _ i2 => ns i i2) (fun n _ => ⟨(m.lst (tL_in (q := g + 1) hg (by omega)) (fun z => hP _ z)).2.1 n, (m.lst (tL_in (q := g + 7) hg (by omega)) (fun z => hP _ z)).2.1 n, (m.lst (tL_in (q := g + 9) hg (by omega)) (fun z => hP _ z)).2.1 n, (m.lst (tL_in (q := g + 11) hg (by omega)) (fun z => hP _ z)).2.1 n⟩), ⟨(m.lst (n30 hg) (fun z => hP _ z)).1, (m.lst (n32 hg) (fun z => hP _ z)).1, (m.lst (n34 hg) (fun z => hP _ z)).1⟩, c18⟩
theorem vI.sp {c p : Int} (h : vI M a g N T K R W C Z bl T2 M2) (q : Mv (fun _ => False) (fun x => x = a) M2 a M3 ∧ mI M3 a 16 = c ∧ mI M3 a 17 = p ∧ ∀ i, i ≠ 16 → i ≠ 17 → mI M3 a i = mI M2 a i) : vI M a g N T K R W C Z bl T2 M3 := by
  obtain ⟨L3, g3, G3, z3, c18⟩ := h.1.sp (R := R) (W := W) (C := C) (Z := Z) q.1 (fun _ z => z) (fun _ z => z)
  exact h.step (Nat.le_refl _) L3 (iF.mk h.1.2.1.1.1 q.1 (fun _ z => z.elim) (fun x z => Or.inl z) (fun i i1 i2 _ => q.2.2.2 i i1 i2)) g3 z3 (by rw [c18]) G3
/-- the variable is known -/
theorem s_vi410 {k e : Nat} (hb : bl = 0 ∨ bl = 1) (h : Df M a g N T K R W C Z E tg) (hW : W < 12) (hk : k + 1 < N) (v2 : vI M a g N T K R W C Z bl T2 M2) (hTe : T2 ≤ e) (hZe : Z ≤ e) (hv : mI M2 a 16 = 0 → (mI M2 (g + 18) W ≠ 0 → mI M2 (g + 19) W = 0 ∧ mI M2 (g + 20) W = 1) ∧ mI M2 (g + 19) W ≤ mI M2 (g + 21) W ∧ mI M2 (g + 21) W ≤ mI M2 (g + 20) W ∧ -1000000000 < mI M2 (g + 19) W ∧ mI M2 (g + 20) W < 1000000000) : h_MM_varItem_410 G (d + 7) a k W M2 (fun M' => mOk M' ∧ itQ M a g N e M') := by
  obtain ⟨hL, ⟨g6, g12, g18, g17⟩, ⟨y30, y32, y34⟩, hK, hD⟩ := id h
  obtain ⟨L9, I9, gI9, ⟨z30, z32, z34⟩, c18, hT, G9⟩ := v2
  have hN := hL.2.1.1.2.2
  have hg := hL.2.2.2.2.2.1
  have hBd := hD.1
  have w9 := L9.2.1.1.1
  refine k_MM_varItem_410 L9.1 (i32s (by omega) (by omega)) (i32s (by omega) (by omega)) ?_
  rw [show mR M2 a 10 = g from L9.2.2.2.2.1]
  refine ⟨w9.1.1, (w9.gp hg).1, i32s (by omega) (by omega), fun M1 e1 => ?_⟩
  have a0 := goff0 hg
  obtain ⟨m1, f1, l1⟩ := mv_cell (v := (W : Int) + 1) (i32s (by omega) (by omega)) L9.1 w9 (show a ≤ g by omega) ⟨a0.1, a0.2.1, a0.2.2.1⟩ e1
  have no : ∀ q : Nat, False → q ∈ nums a := fun _ z => z.elim
  have aI1 := (m1.fld w9 no (by omega)).1
  have g1 : ∀ i, mI M1 g i = if i = 12 then (W : Int) + 1 else mI M g i := fun i => by
    rw [f1]
    by_cases z : i = 12
    · rw [if_pos ⟨rfl, z⟩, if_pos z]
    · rw [if_neg (fun y => z y.2), if_neg z, gI9]
  have x12 : mI M1 g 12 = (W : Int) + 1 := by rw [g1, if_pos rfl]
  have x6 : mI M1 g 6 = R := by rw [g1, if_neg (by omega), g6]
  have L1 : Lc M1 a g N T2 K := L9.mv m1 no (fun _ z => z.elim) (by rw [x6, gI9, g6]; omega) (by rw [x12, gI9, g12]; omega) ⟨by omega, by omega⟩ (fun r _ => by rw [f1, if_neg (fun z => by omega)])
  have I1 : iF M a g M1 := I9.trans (iF.mk w9 m1 (fun _ z => z.elim) (fun x z => Or.inr (Or.inl (by omega))) (fun i _ _ _ => by rw [aI1]))
  have w1 := m1.2.1
  refine (s_MM_know (d := d + 6) (u := (k : Int) + 1) (i32s (by omega) (by omega)) (i32s (by omega) (by omega)) (i32s (by omega) (by omega)) L1.1 w1 L1.2.2.1.1 L1.2.2.1.2.1 L1.2.2.1.2.2.1 (by omega)).mono (fun M3 t => ?_)
  obtain ⟨o2, m2, l2, p2, e2, s2, x2⟩ := t
  obtain ⟨L2, gI2, aI2⟩ := L1.kn (by omega) m2 l2 p2 e2 s2 x2 (by omega) (Or.inl ⟨rfl, by omega, by omega⟩) (fun z => by omega)
  obtain ⟨G2, q30, q32, q34⟩ := ge_kn (R := R) (W := W + 1) (C := C) (Z := Z) (T := T2) w1 hg m2
  have I2 : iF M a g M3 := I1.trans (iF.mk w1 m2 (fun q hq => knP_it hq) (fun _ z => z.elim) (fun i _ _ _ => by rw [aI2]))
  refine ⟨o2, o2, I2, ?_⟩
  have e16 : mI M3 a 16 = mI M2 a 16 := by rw [aI2, aI1]
  by_cases z16 : mI M3 a 16 = 0
  · refine Or.inr ⟨z16, T2, K + 1, R, W + 1, C, Z, E, tg, ⟨L2, ⟨by rw [gI2, x6], by rw [gI2, x12]; omega, by rw [gI2, g1, if_neg (by omega), g18], by rw [gI2, g1, if_neg (by omega), g17]⟩, ⟨?_, ?_, ?_⟩, by omega, ?_⟩, hTe, hZe⟩
    · rw [q30, (m1.lst (n30 hg) (fun z => z)).1, z30, y30]
    · rw [q32, (m1.lst (n32 hg) (fun z => z)).1, z32, y32]
    · rw [q34, (m1.lst (n34 hg) (fun z => z)).1, z34, y34]
    · have hv := hv (by rw [← e16]; exact z16)
      have D9 := ((hD.ge G9).tu hT).vu hW ⟨hv.1, hv.2.1, hv.2.2.1, hv.2.2.2.1, hv.2.2.2.2, by rw [c18]; exact hb⟩
      have G1 : Ge M2 g R (W + 1) C Z T2 M1 := ge_mv w9 hg m1 no (fun z => z) (fun z => z) (fun i i1 i2 (z : g + i = g) => by omega) (fun n _ => ⟨(m1.lst (tL_in (q := g + 1) hg (by omega)) (fun z => z)).2.1 n, (m1.lst (tL_in (q := g + 7) hg (by omega)) (fun z => z)).2.1 n, (m1.lst (tL_in (q := g + 9) hg (by omega)) (fun z => z)).2.1 n, (m1.lst (tL_in (q := g + 11) hg (by omega)) (fun z => z)).2.1 n⟩)
      exact (D9.ge G1).ge G2
  · exact Or.inl z16
theorem vI.ev (h : vI M a g N T K R W C Z bl T2 M2) (hD : Dg M g R W C Z T E tg) (hT : T2 ≤ 16384) : Ev False M2 a g R W T2 := by
  obtain ⟨L, -, -, -, -, -, G⟩ := h
  have D := hD.ge G
  exact ⟨L.1, L.2.1.1.1, L.2.2.2.2.2.1, L.2.2.2.1, ⟨D.1.1, D.1.2.1, hT⟩, fun r hr => ⟨D.2.1 r hr, fun z => z.elim⟩, fun z => z.elim⟩
/-- the first value -/
theorem s_vi369 {k e i : Nat} {l6 l10 : Int} (h : Df M a g N T K R W C Z E tg) (hW : W < 12) (hk : k + 1 < N) (hi : i < N) (hi1 : l6 ≠ 0 → i + 1 < N) (v2 : vI M a g N T K R W C Z bl T2 M2) (hTe : T2 ≤ e) (hZe : Z ≤ e) (hT16 : T2 ≤ 16384) (il6 : i32 l6) (il10 : i32 l10) (hb : bl = 0 ∨ bl = 1) (hv : mI M2 a 16 = 0 → (bl ≠ 0 → mI M2 (g + 19) W = 0 ∧ mI M2 (g + 20) W = 1) ∧ mI M2 (g + 19) W ≤ mI M2 (g + 20) W ∧ -1000000000 < mI M2 (g + 19) W ∧ mI M2 (g + 20) W < 1000000000) (hf : l6 ≠ 0 → ∃ n : Nat, l10 = n ∧ Cte M2 g R W T2 n bl) : h_MM_varItem_369 G (d + 7) a k W i l6 l10 M2 (fun M' => mOk M' ∧ itQ M a g N e M') := by
  have hN := h.1.2.1.1.2.2
  have hg := h.1.2.2.2.2.2.1
  have L2 := v2.1
  have w2 := L2.2.1.1.1
  have b14 := (w2.gp hg).2.2.2.2.1.2.1
  have b16 := (w2.gp hg).2.2.2.2.1.2.2.2
  refine k_MM_varItem_369 L2.1 (i32s (by omega) (by omega)) (i32s (by omega) (by omega)) (i32s (by omega) (by omega)) il6 il10 ?_
  rw [show mR M2 a 10 = g from L2.2.2.2.2.1, show mR M2 g 14 = g + 19 from (w2.gp hg).2.2.1.2.1, show mR M2 g 16 = g + 21 from (w2.gp hg).2.2.1.2.2.2.1, Int.toNat_natCast]
  refine ⟨w2.1.1, (w2.gp hg).1, b14.1, by rw [b14.2]; omega, b16.1, by rw [b16.2]; omega, fun M3 e3 => ?_⟩
  obtain ⟨v3, f3, a3⟩ := v2.st (i := 21) (L2.1 _ _).1 (by omega) (by decide) (by decide) e3
  have c18 : mI M3 (g + 18) W = bl := v3.2.2.2.2.1
  have c19 : mI M3 (g + 19) W = mI M2 (g + 19) W := by rw [f3, if_neg (fun z => by omega)]
  have c20 : mI M3 (g + 20) W = mI M2 (g + 20) W := by rw [f3, if_neg (fun z => by omega)]
  have c21 : mI M3 (g + 21) W = mI M2 (g + 19) W := by rw [f3, if_pos ⟨rfl, rfl⟩]
  have e16 : mI M3 a 16 = mI M2 a 16 := by rw [a3]
  refine ⟨fun q => s_vi410 hb h hW hk v3 hTe hZe (fun z => ?_), fun q => ?_⟩
  · have := hv (by rw [← e16]; exact z)
    rw [c18, c19, c20, c21]
    exact ⟨this.1, by omega, this.2.1, this.2.2.1, this.2.2.2⟩
  · have q1 : l6 ≠ 0 := fun z => q (Or.inl z)
    have q2 : mI M3 a 16 = 0 := Classical.byContradiction (fun z => q (Or.inr z))
    obtain ⟨n, hn, ct⟩ := hf q1
    subst hn
    clear hf q
    have hv := hv (by rw [← e16]; exact q2)
    have ct3 : Cte M3 g R W T2 n bl := ct.gn (ge_st (R := R) (W := W) (C := C) (Z := Z) (T := T2) hg (gsti L2 (L2.1 _ _).1 (by omega) (by decide) (by decide) (fun z => by omega) e3).2.2.2.1 f3 (by rw [e3]; rfl) (by omega) (fun _ _ => Nat.le_refl W) (by omega) (by omega)).1 h.2.2.2.2.1.1
    rw [show (i : Int) + 1 = ((i + 1 : Nat) : Int) by omega]
    refine (s_MM_begins (d := d + 1) v3.1 (v3.ev h.2.2.2.2 hT16) ct3 hW (fun z => by omega) (fun z => by omega) (hi1 q1)).mono (fun M4 t4 => ⟨t4.1, ?_⟩)
    obtain ⟨-, M5, x, E5, ix, e4, hx⟩ := t4
    have v5 := v3.eo E5
    obtain ⟨v4, f4, a4⟩ := v5.st (i := 21) ix (by omega) (by decide) (by decide) e4
    have w3 := v3.1.2.1.1.1
    have hin : ∀ q, q = a + 99 → q ∈ nums a := fun q hq => by rw [hq]; exact n99
    have keep : ∀ (j : Nat), j ≤ 29 → frO (13 + j) → frO (49 + j) → mI M5 (g + j) = mI M3 (g + j) := fun j j1 f1 f2 => (E5.1.cellL w3 hin (goffx hg f1 f2) (fun z => by
      have : g + j = a ∨ g + j = a + 97 ∨ g + j = a + 98 ∨ g + j = a + 102 ∨ g + j = a + 103 ∨ g + j = a + 104 := z
      omega)).1
    have d18 : mI M4 (g + 18) W = bl := v4.2.2.2.2.1
    have d19 : mI M4 (g + 19) W = mI M2 (g + 19) W := by rw [f4, if_neg (fun z => by omega), keep 19 (by omega) (by decide) (by decide), c19]
    have d20 : mI M4 (g + 20) W = mI M2 (g + 20) W := by rw [f4, if_neg (fun z => by omega), keep 20 (by omega) (by decide) (by decide), c20]
    have d21 : mI M4 (g + 21) W = x := by rw [f4, if_pos ⟨rfl, rfl⟩]
    refine s_vi410 hb h hW hk v4 hTe hZe (fun z => ?_)
    have hx := hx (by rw [← a4]; exact z)
    rw [c18, c19, c20] at hx
    rw [d18, d19, d20, d21]
    refine ⟨hv.1, ?_, ?_, hv.2.2.1, hv.2.2.2⟩
    · rcases hb with y | y
      · exact (hx.1 y).1
      · have := hx.2 (by omega); have := hv.1 (by omega); omega
    · rcases hb with y | y
      · exact (hx.1 y).2
      · have := hx.2 (by omega); have := hv.1 (by omega); omega
end VI2
end
