section
/-! The reference: a variable item, its range. -/
section VI3
variable {G : mG} {d a g R W C Z T T2 T3 N K : Nat} {M M2 M3 : mM} {E : Eg9} {tg bl : Int}
theorem vst_ge {i : Nat} {v : Int} (h : Lc M2 a g N T2 K) (hv : i32 v) (hi : 18 ≤ i ∧ i ≤ 21) (f1 : frO (13 + i)) (f2 : frO (49 + i)) (e : M3 = mUI M2 (g + i) W v) : Ge M2 g R W C Z T2 M3 := by
  obtain ⟨L3, I3, ⟨g3, a3⟩, m3, f3, l3⟩ := gsti h hv (by omega) f1 f2 (fun z => by omega) e
  exact ge_st h.2.2.2.2.2.1 m3 f3 l3 (by omega) (fun _ _ => Nat.le_refl W) (by omega) (by omega)
theorem vI.new (h : Df M a g N T K R W C Z E tg) (hb : bl = 0 ∨ bl = 1) (e : M2 = mUI M (g + 18) W bl) : vI M a g N T K R W C Z bl T M2 ∧ mI M2 a = mI M a := by
  have ib : i32 bl := i32s (by omega) (by omega)
  have hg := h.1.2.2.2.2.2.1
  have G2 := vst_ge (R := R) (C := C) (Z := Z) (i := 18) h.1 ib (by omega) (by decide) (by decide) e
  obtain ⟨L3, I3, ⟨g3, a3⟩, m3, f3, l3⟩ := gsti (i := 18) h.1 ib (by omega) (by decide) (by decide) (fun z => by omega) e
  exact ⟨⟨L3, I3, g3, ⟨(m3.lst (n30 hg) (fun z => z)).1, (m3.lst (n32 hg) (fun z => z)).1, (m3.lst (n34 hg) (fun z => z)).1⟩, by rw [f3, if_pos ⟨rfl, rfl⟩], Nat.le_refl _, G2⟩, a3⟩
theorem iF.wk (h : iF M a g M2) (hg : g = a + 13 ∨ g = a + 49) : wk M2 a = wk M a := by
  funext k
  exact (h.1.lst n5 (fun z => by have := z.2; omega)).2.1 k
end VI3
end
section
/-! The reference: varItem. -/
section VI4
variable {G : mG} {d a g R W C Z T T2 N K : Nat} {M M2 : mM} {E : Eg9} {tg : Int}
theorem Lc.ub {i j : Nat} {s : Int} {Q : Int → mM → Prop} (h : Lc M a g N T K) (hij : i ≤ j) (hb : Bl (wk M a) i (j - i)) (hj : j < N) (h1 : wk M a j = s) (hs : s = 16 ∨ s = 17 ∨ s = 33) (hQ : Q j M) : Ci G y_MM_until (d + 2) [vr a, vi i, vi s] M Q := by
  refine (s_until_bl (d := d) h.1 h.2.1.1 hij hb hj h1 hs).mono (fun x M1 e1 => ?_)
  obtain ⟨e1, hx⟩ := e1
  subst e1
  rw [hx]
  exact hQ
theorem Lc.io {p i e : Nat} {Q : Int → mM → Prop} (h : Lc M a g N T K) (h1 : p ≤ i) (h2 : i ≤ e) (he : e < N) (hn : ∀ m, p ≤ m → m < i → wk M a m ≠ 9) (hi : i = e ∨ wk M a i = 9) (hQ : Q i M) : Ci G y_MM_initOf (d + 2) [vr a, vi p, vi e] M Q := by
  refine (s_MM_initOf (d := d) h h1 h2 he hn hi).mono (fun x M1 e1 => ?_)
  obtain ⟨e1, hx⟩ := e1
  subst e1
  rw [hx]
  exact hQ
theorem vI.g6 {bl : Int} (v : vI M a g N T K R W C Z bl T2 M2) (h : Df M a g N T K R W C Z E tg) : mI M2 g 6 = R := by rw [v.2.2.1]; exact h.2.1.1
end VI4
end
section
/-! The reference: a set. -/
section SI
variable {G : mG} {d a g R W C Z T T2 T3 Z2 N K : Nat} {M M' M2 M3 : mM} {E : Eg9} {tg : Int} {P S : Nat → Prop}
theorem ge_mvl (w : Wd M a) (hg : g = a + 13 ∨ g = a + 49) (m : Mv P S M a M') (hin : ∀ q, P q → q ∈ nums a) (h30 : ∀ i : Nat, i < Z → nt M' (g + 30) i = nt M (g + 30) i) (h34 : ∀ i : Nat, i < Z → nt M' (g + 34) i = nt M (g + 34) i) (h32 : ∀ i : Nat, i < Z → nt M' (g + 32) i = nt M (g + 32) i) (hS : ∀ i, 13 ≤ i → i ≤ 29 → ¬ S (g + i)) (hn : ∀ n, n < T → so M' g n = so M g n ∧ va M' g n = va M g n ∧ fp M' g n = fp M g n ∧ np M' g n = np M g n ∧ pm M' g n = pm M g n) : Ge M g R W C Z T M' := by
  have c22 := m.cellL w hin (goffx (i := 22) hg (by decide) (by decide)) (hS 22 (by omega) (by omega))
  have c23 := m.cellL w hin (goffx (i := 23) hg (by decide) (by decide)) (hS 23 (by omega) (by omega))
  have c27 := m.cellL w hin (goffx (i := 27) hg (by decide) (by decide)) (hS 27 (by omega) (by omega))
  have c13 := m.cellL w hin (goffx (i := 13) hg (by decide) (by decide)) (hS 13 (by omega) (by omega))
  have c14 := m.cellL w hin (goffx (i := 14) hg (by decide) (by decide)) (hS 14 (by omega) (by omega))
  have c15 := m.cellL w hin (goffx (i := 15) hg (by decide) (by decide)) (hS 15 (by omega) (by omega))
  have c16 := m.cellL w hin (goffx (i := 16) hg (by decide) (by decide)) (hS 16 (by omega) (by omega))
  have c17 := m.cellL w hin (goffx (i := 17) hg (by decide) (by decide)) (hS 17 (by omega) (by omega))
  have c18 := m.cellL w hin (goffx (i := 18) hg (by decide) (by decide)) (hS 18 (by omega) (by omega))
  have c19 := m.cellL w hin (goffx (i := 19) hg (by decide) (by decide)) (hS 19 (by omega) (by omega))
  have c20 := m.cellL w hin (goffx (i := 20) hg (by decide) (by decide)) (hS 20 (by omega) (by omega))
  have c21 := m.cellL w hin (goffx (i := 21) hg (by decide) (by decide)) (hS 21 (by omega) (by omega))
  have c24 := m.cellL w hin (goffx (i := 24) hg (by decide) (by decide)) (hS 24 (by omega) (by omega))
  have c25 := m.cellL w hin (goffx (i := 25) hg (by decide) (by decide)) (hS 25 (by omega) (by omega))
  have c26 := m.cellL w hin (goffx (i := 26) hg (by decide) (by decide)) (hS 26 (by omega) (by omega))
  have c28 := m.cellL w hin (goffx (i := 28) hg (by decide) (by decide)) (hS 28 (by omega) (by omega))
  have c29 := m.cellL w hin (goffx (i := 29) hg (by decide) (by decide)) (hS 29 (by omega) (by omega))
  exact ⟨⟨hn, fun r _ => ⟨by rw [c13.1], by rw [c14.1]⟩, fun v _ => by rw [c18.1]⟩, fun r _ => ⟨by rw [c15.1], by rw [c16.2], by rw [c17.2]⟩, fun v _ => ⟨by rw [c19.1], by rw [c20.1], by rw [c21.1]⟩, fun c _ => ⟨by rw [c24.1], by rw [c25.1], fun b _ => ⟨by rw [c26.1], by rw [c28.1], by rw [c29.1], by rw [c27.1], by rw [c22.1], by rw [c23.1]⟩⟩, fun i hi => ⟨h30 i hi, h34 i hi, h32 i hi⟩⟩
/-- a set list grows -/
theorem gadd {p : Nat} {v : Int} (h : Lc M2 a g N T2 K) (hp : p = g + 30 ∨ p = g + 32 ∨ p = g + 34) (hZ : (Z : Int) ≤ ln M2 p) (t : adQ M2 p v M3) : Lc M3 a g N T2 K ∧ Mv (fun x => x = p) (fun _ => False) M2 a M3 ∧ mI M3 g = mI M2 g ∧ mI M3 a = mI M2 a ∧ Ge M2 g R W C Z T2 M3 := by
  have hg := h.2.2.2.2.2.1
  have hB := h.2.2.2.2.2.2.1
  have w := h.2.1.1.1
  have hpn : p ∈ nums a := by
    rcases hp with z | z | z <;> rw [z]
    · exact n30 hg
    · exact n32 hg
    · exact n34 hg
  have m := mv_add w hpn t
  obtain ⟨-, -, -, -, t5, -⟩ := t
  have hin : ∀ q, q = p → q ∈ nums a := fun q hq => by rw [hq]; exact hpn
  have gI := m.gI w hg hin (fun z => z)
  have o13 := goffx (i := 13) hg (by decide) (by decide)
  have c13 := m.cell w hin o13.1 o13.2.1 o13.2.2 (fun z => z)
  have nn : ∀ n, so M3 g n = so M2 g n ∧ va M3 g n = va M2 g n ∧ fp M3 g n = fp M2 g n ∧ np M3 g n = np M2 g n ∧ pm M3 g n = pm M2 g n := fun n => ⟨(m.lst (tL_in (q := g + 1) hg (tLk1 g)) (by omega)).2.1 n, (m.lst (tL_in (q := g + 7) hg (tLk7 g)) (by omega)).2.1 n, (m.lst (tL_in (q := g + 9) hg (tLk9 g)) (by omega)).2.1 n, (m.lst (tL_in (q := g + 11) hg (tLk11 g)) (by omega)).2.1 n, (m.lst (tL_in (q := g + 3) hg (tLk3 g)) (by omega)).2.1 n⟩
  refine ⟨h.mv m hin (fun q hq => by omega) (by rw [gI]; omega) (by rw [gI]; omega) (by rw [gI]; omega) (fun r _ => by rw [c13]), m, gI, (m.fld w hin (fun z => z)).1, ge_mvl w hg m hin (fun i hi => ?_) (fun i hi => ?_) (fun i hi => ?_) (fun _ _ _ z => z) (fun n _ => nn n)⟩
  · by_cases z : p = g + 30
    · rw [← z]; exact t5 i (by omega)
    · exact (m.lst (n30 hg) (fun y => z y.symm)).2.1 i
  · by_cases z : p = g + 34
    · rw [← z]; exact t5 i (by omega)
    · exact (m.lst (n34 hg) (fun y => z y.symm)).2.1 i
  · by_cases z : p = g + 32
    · rw [← z]; exact t5 i (by omega)
    · exact (m.lst (n32 hg) (fun y => z y.symm)).2.1 i
/-- the root of a rule that has been read -/
theorem rl_rt {t : Int} (hL : Lc M2 a g N T2 K) (g6 : mI M2 g 6 = R) (g12 : mI M2 g 12 = W) (hD : Dg M2 g R W C Z T2 E tg) (h : rlR 0 M2 a g N T2 K T3 t M3) (z : mI M3 a 16 = 0) (hp : ∀ n, n < T2 → pm M3 g n = pm M2 g n) : Rt M3 g R W T3 E.1 T2 t := by
  have hR := hD.1.1
  have G3 := (rlR.ge (R := R) (W := W) (C := 0) (Z := 0) hL h).2.1 z hp
  rcases h.2.2.2.2.2 with y | ⟨-, ⟨f, ty⟩, -⟩
  · exact absurd z y
  · refine ⟨T2, R, f, T3, rfl, Nat.le_refl _, fun r hr q => ?_, ty.mono (fun v hv => ?_), Nat.le_refl _⟩
    · rw [(G3.1.2.1 r hr).1] at q
      obtain ⟨n, f', -, q2, -⟩ := hD.2.2.1 r hr q
      exact q2
    · unfold nmr at hv
      rw [g6, g12] at hv
      rcases hv with ⟨h1, h2, h3, h4⟩ | ⟨-, h1, h2, h3⟩
      · have gt := G3.1.tr (r := v.toNat) hR (by omega)
        rw [show ((v.toNat : Nat) : Int) = v by omega] at gt
        exact ⟨Or.inl ⟨h1, h2, Or.inl trivial⟩, gt⟩
      · exact ⟨Or.inr ⟨trivial, h1, h2⟩, G3.1.tv h1 h2⟩
/-- inside a command item -/
def cI (M : mM) (a g N K R W C : Nat) (E : Eg9) (tg : Int) (T2 Z2 : Nat) (M2 : mM) : Prop := Lc M2 a g N T2 K ∧ iF M a g M2 ∧ (mI M2 g = mI M g ∧ mI M2 g 6 = R ∧ mI M2 g 12 = W) ∧ (ln M2 (g + 30) = Z2 ∧ ln M2 (g + 32) = Z2 ∧ ln M2 (g + 34) = Z2) ∧ (mI M2 a 16 = 0 → Dg M2 g R W C Z2 T2 E tg)
/-- a set has been read -/
def siQ (M : mM) (a g N K R W C : Nat) (E : Eg9) (tg : Int) (c T2 Z2 Tm : Nat) (M2 : mM) (x : Int) (M3 : mM) : Prop := (x = (c : Int) ∨ x = (c + 1 : Nat)) ∧ Mv (itP a g) (fun y => y = a) M2 a M3 ∧ ∃ T3 Z3 : Nat, cI M a g N K R W C E tg T3 Z3 M3 ∧ (T2 ≤ T3 ∧ T3 ≤ T2 + Tm ∧ Z2 ≤ Z3 ∧ Z3 ≤ Z2 + 1) ∧ (mI M3 a 16 = 0 → x = (c + 1 : Nat) ∧ Ge M2 g R W (C + 1) Z2 T2 M3)
theorem si_stop {c Tm : Nat} {cc p : Int} (h : cI M a g N K R W C E tg T2 Z2 M2) (hc : cc ≠ 0) (q : Mv (fun _ => False) (fun x => x = a) M2 a M3 ∧ mI M3 a 16 = cc ∧ mI M3 a 17 = p ∧ ∀ i, i ≠ 16 → i ≠ 17 → mI M3 a i = mI M2 a i) : siQ M a g N K R W C E tg c T2 Z2 Tm M2 c M3 := by
  obtain ⟨L2, I2, g2, z2, D2⟩ := h
  obtain ⟨L3, g3, G3, z3, c18⟩ := L2.sp (R := R) (W := W) (C := C) (Z := Z2) q.1 (fun _ z => z) (fun _ z => z)
  have w2 := L2.2.1.1.1
  have z16 : mI M3 a 16 ≠ 0 := by rw [q.2.1]; exact hc
  refine ⟨Or.inl rfl, q.1.mono (fun _ z => z.elim) (fun x z => z) (itP_lt w2), T2, Z2, ⟨L3, I2.trans (iF.mk w2 q.1 (fun _ z => z.elim) (fun x z => Or.inl z) (fun i i1 i2 _ => q.2.2.2 i i1 i2)), ⟨g3.trans g2.1, by rw [g3]; exact g2.2.1, by rw [g3]; exact g2.2.2⟩, ⟨by rw [z3.1]; exact z2.1, by rw [z3.2.1]; exact z2.2.1, by rw [z3.2.2]; exact z2.2.2⟩, fun z => absurd z z16⟩, ⟨Nat.le_refl _, by omega, Nat.le_refl _, by omega⟩, fun z => absurd z z16⟩
end SI
end
section
/-! The reference: setItem. -/
section SI2
variable {G : mG} {d a g R W C T2 Z2 N K : Nat} {M M2 M3 : mM} {E : Eg9} {tg : Int}
/-- three numbers of a set are put down -/
theorem si_add {c v T3 : Nat} {pl : Int} {Tm : Nat} {M4 M5 M6 : mM} (h : cI M a g N K R W C E tg T2 Z2 M2) (z2 : mI M2 a 16 = 0) (hv : v < W) (t1 : T2 < T3) (t2 : T3 ≤ T2 + Tm) (Rl : rlR 0 M2 a g N T2 K T3 (mI M2 (g + 18) v) M3) (hp : mI M3 a 16 = 0 → ∀ n, n < T2 → pm M3 g n = pm M2 g n) (a4 : adQ M3 (g + 30) v M4) (a5 : adQ M4 (g + 32) pl M5) (a6 : adQ M5 (g + 34) (T2 : Int) M6) : siQ M a g N K R W C E tg c T2 Z2 Tm M2 (c + 1 : Nat) M6 := by
  obtain ⟨L2, I2, ⟨g2, g6, g12⟩, ⟨z30, z32, z34⟩, D2⟩ := h
  have D2 := D2 z2
  have hg := L2.2.2.2.2.2.1
  have w2 := L2.2.1.1.1
  have hR := D2.1.1
  obtain ⟨I3, G3, y30, y32, y34⟩ := rlR.ge (R := R) (W := W) (C := C + 1) (Z := Z2) L2 Rl
  have L3 := Rl.2.1
  have g3 : mI M3 g = mI M2 g := Rl.2.2.2.1
  have m3 : Mv (itP a g) (fun y => y = a) M2 a M3 := Rl.1.mono (fun q hq => rlP_it hg hq) (fun x hx => hx) (itP_lt w2)
  have w3 := L3.2.1.1.1
  have lt3 : ∀ {p : Nat} {Mx : mM}, p = g + 30 ∨ p = g + 32 ∨ p = g + 34 → Wd Mx a → ∀ q, q = p → itP a g q := fun hp _ q hq => by
    refine ⟨?_, by omega⟩
    rw [hq]
    rcases hp with z | z | z <;> rw [z]
    · exact n30 hg
    · exact n32 hg
    · exact n34 hg
  obtain ⟨L4, m4, g4, i4, G4⟩ := gadd (R := R) (W := W) (C := C + 1) (Z := Z2) L3 (Or.inl rfl) (by rw [y30, z30]; omega) a4
  obtain ⟨L5, m5, g5, i5, G5⟩ := gadd (R := R) (W := W) (C := C + 1) (Z := Z2) L4 (Or.inr (Or.inl rfl)) (by rw [(m4.lst (n32 hg) (by omega)).1, y32, z32]; omega) a5
  have e34 : ln M5 (g + 34) = (Z2 : Int) := by rw [(m5.lst (n34 hg) (by omega)).1, (m4.lst (n34 hg) (by omega)).1, y34, z34]
  obtain ⟨L6, m6, g6', i6, G6⟩ := gadd (R := R) (W := W) (C := C + 1) (Z := Z2) L5 (Or.inr (Or.inr rfl)) (by rw [e34]; omega) a6
  have m4' : Mv (itP a g) (fun y => y = a) M3 a M4 := m4.mono (lt3 (Or.inl rfl) w3) (fun _ z => z.elim) (itP_lt w3)
  have m5' : Mv (itP a g) (fun y => y = a) M4 a M5 := m5.mono (lt3 (Or.inr (Or.inl rfl)) w3) (fun _ z => z.elim) (itP_lt m4.2.1)
  have m6' : Mv (itP a g) (fun y => y = a) M5 a M6 := m6.mono (lt3 (Or.inr (Or.inr rfl)) w3) (fun _ z => z.elim) (itP_lt m5.2.1)
  have mm := ((m3.trans m4').trans m5').trans m6'
  have iA : mI M6 a = mI M3 a := by rw [i6, i5, i4]
  have gI : mI M6 g = mI M2 g := by rw [g6', g5, g4, g3]
  have l30 : ln M6 (g + 30) = (Z2 + 1 : Nat) := by rw [(m6.lst (n30 hg) (by omega)).1, (m5.lst (n30 hg) (by omega)).1, a4.2.2.2.1, y30, z30]; omega
  have l32 : ln M6 (g + 32) = (Z2 + 1 : Nat) := by rw [(m6.lst (n32 hg) (by omega)).1, a5.2.2.2.1, (m4.lst (n32 hg) (by omega)).1, y32, z32]; omega
  have l34 : ln M6 (g + 34) = (Z2 + 1 : Nat) := by rw [a6.2.2.2.1, e34]; omega
  have t30 : nt M6 (g + 30) Z2 = (v : Int) := by
    rw [(m6.lst (n30 hg) (by omega)).2.1, (m5.lst (n30 hg) (by omega)).2.1]
    have := a4.2.2.2.2.2.1
    rw [y30, z30, Int.toNat_natCast] at this
    exact this
  have t34 : nt M6 (g + 34) Z2 = (T2 : Int) := by
    have := a6.2.2.2.2.2.1
    rw [e34, Int.toNat_natCast] at this
    exact this
  have If : iF M2 a g M6 := ⟨mm.mono (fun q hq => hq) (fun x hx => Or.inl hx) (itP_lt w2), fun i i1 i2 i3 => by rw [iA]; exact I3.2 i i1 i2 i3⟩
  have G36 := (G4.trans G5).trans G6
  have fin : mI M6 a 16 = 0 → Ge M2 g R W (C + 1) Z2 T2 M6 ∧ Dg M6 g R W C (Z2 + 1) T3 E tg := fun z => by
    rw [iA] at z
    have G3 := G3 z (hp z)
    have G26 := G3.trans (G36.down (Nat.le_refl _) (Nat.le_refl _) (Nat.le_refl _) (Nat.le_refl _) (Nat.le_of_lt t1))
    have D6 := ((D2.ge (G26.down (Nat.le_refl _) (Nat.le_refl _) (Nat.le_succ _) (Nat.le_refl _) (Nat.le_refl _))).tu (Nat.le_of_lt t1))
    have rt := (rl_rt L2 g6 g12 D2 Rl z (hp z)).gn G36.1 hR
    refine ⟨G26, D6.zu ?_⟩
    rw [t30, t34]
    refine ⟨by omega, by omega, ?_⟩
    rw [G26.1.tv (by omega) (by omega)]
    have b01 := (D2.2.2.2.1 v hv).2.2.2.2.2
    have e1 : tn M2 g (100 + (v : Int)) = mI M2 (g + 18) v := by
      unfold tn
      rw [if_pos (show (100 : Int) ≤ 100 + (v : Int) by omega), show (100 + (v : Int) - 100).toNat = v by omega]
      rcases b01 with y | y <;> rw [y] <;> rfl
    rw [e1]
    exact rt
  exact ⟨Or.inr rfl, mm, T3, Z2 + 1, ⟨L6, I2.trans If, ⟨gI.trans g2, by rw [gI]; exact g6, by rw [gI]; exact g12⟩, ⟨l30, l32, l34⟩, fun z => (fin z).2⟩, ⟨Nat.le_of_lt t1, t2, by omega, by omega⟩, fun z => ⟨rfl, (fin z).1⟩⟩
end SI2
end
section
/-! The reference: setItem, to its end. -/
section SI3
variable {G : mG} {d a g R W C T2 Z2 N K : Nat} {M M2 : mM} {E : Eg9} {tg : Int}
theorem Lc.rd {p j : Nat} {Q : Int → mM → Prop} {T : Nat} (h : Lc M a g N T K) (hp : p ∈ nums a) (hk : (j : Int) < ln M p) (hQ : ∀ z, z = nt M p j → i32 z → Q z M) : Ci G y_MN_at d [vr p, vi j] M Q := by
  refine (s_MN_at h.1 (h.2.1.1.1.nu hp) hk).mono (fun z M1 e1 => ?_)
  obtain ⟨e1, hz⟩ := e1
  subst e1
  exact hQ z hz (by rw [hz]; exact (h.1 _ _).1)
theorem Lc.co {k e T : Nat} {Q : Int → mM → Prop} (h : Lc M a g N T K) (hk : k < e) (he : e < N) (h1 : ∀ t, 1 ≤ t → t ≤ e - k → 1 ≤ dp (wk M a) k t) (h2 : dp (wk M a) k (e + 1 - k) = 0) (hQ : Q e M) : Ci G y_MM_closeOf (d + 2) [vr a, vi k] M Q := by
  refine (s_MM_closeOf (d := d) h.1 h.2.1.1 hk he (fun t t1 t2 => by have := h1 t t1 t2; omega) (by rw [show e - k + 1 = e + 1 - k by omega, h2]; omega)).mono (fun x M1 e1 => ?_)
  obtain ⟨e1, hx⟩ := e1
  subst e1
  rw [hx]
  exact hQ
end SI3
end
