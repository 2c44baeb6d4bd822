section
/-! The reference: a set. -/
section SI
variable {G : mG} {d a g R W C Z T T2 T3 Z2 N K : Nat} {M M' M2 M3 : mM} {E : Nat → Nat} {tg : Int} {P S : Nat → Prop}
theorem ge_mvl (w : Wd M a) (hg : g = a + 13 ∨ g = a + 49) (m : Mv P S M a M') (hin : ∀ q, P q → q ∈ nums a) (h30 : ∀ i : Nat, i < Z → nt M' (g + 30) i = nt M (g + 30) i) (h34 : ∀ i : Nat, i < Z → nt M' (g + 34) i = nt M (g + 34) i) (hS : ∀ i, 13 ≤ i → i ≤ 29 → ¬ S (g + i)) (hn : ∀ n, n < T → so M' g n = so M g n ∧ va M' g n = va M g n ∧ fp M' g n = fp M g n ∧ np M' g n = np M g n) : Ge M g R W C Z T M' := by
  have c13 := m.cellL w hin (goffx (i := 13) hg (by decide) (by decide)) (hS 13 (by omega) (by omega))
  have c14 := m.cellL w hin (goffx (i := 14) hg (by decide) (by decide)) (hS 14 (by omega) (by omega))
  have c15 := m.cellL w hin (goffx (i := 15) hg (by decide) (by decide)) (hS 15 (by omega) (by omega))
  have c16 := m.cellL w hin (goffx (i := 16) hg (by decide) (by decide)) (hS 16 (by omega) (by omega))
  have c17 := m.cellL w hin (goffx (i := 17) hg (by decide) (by decide)) (hS 17 (by omega) (by omega))
  have c18 := m.cellL w hin (goffx (i := 18) hg (by decide) (by decide)) (hS 18 (by omega) (by omega))
  have c19 := m.cellL w hin (goffx (i := 19) hg (by decide) (by decide)) (hS 19 (by omega) (by omega))
  have c20 := m.cellL w hin (goffx (i := 20) hg (by decide) (by decide)) (hS 20 (by omega) (by omega))
  have c21 := m.cellL w hin (goffx (i := 21) hg (by decide) (by decide)) (hS 21 (by omega) (by omega))
  have c24 := m.cellL w hin (goffx (i := 24) hg (by decide) (by decide)) (hS 24 (by omega) (by omega))
  have c25 := m.cellL w hin (goffx (i := 25) hg (by decide) (by decide)) (hS 25 (by omega) (by omega))
  have c26 := m.cellL w hin (goffx (i := 26) hg (by decide) (by decide)) (hS 26 (by omega) (by omega))
  have c28 := m.cellL w hin (goffx (i := 28) hg (by decide) (by decide)) (hS 28 (by omega) (by omega))
  have c29 := m.cellL w hin (goffx (i := 29) hg (by decide) (by decide)) (hS 29 (by omega) (by omega))
  exact ⟨⟨hn, fun r _ => ⟨by rw [c13.1], by rw [c14.1]⟩, fun v _ => by rw [c18.1]⟩, fun r _ => ⟨by rw [c15.1], by rw [c16.2], by rw [c17.2]⟩, fun v _ => ⟨by rw [c19.1], by rw [c20.1], by rw [c21.1]⟩, fun c _ => ⟨by rw [c24.1], by rw [c25.1], fun b _ => ⟨by rw [c26.1], by rw [c28.1], by rw [c29.1]⟩⟩, fun i hi => ⟨h30 i hi, h34 i hi⟩⟩
/-- a set list grows -/
theorem gadd {p : Nat} {v : Int} (h : Lc M2 a g N T2 K) (hp : p = g + 30 ∨ p = g + 32 ∨ p = g + 34) (hZ : (Z : Int) ≤ ln M2 p) (t : adQ M2 p v M3) : Lc M3 a g N T2 K ∧ Mv (fun x => x = p) (fun _ => False) M2 a M3 ∧ mI M3 g = mI M2 g ∧ mI M3 a = mI M2 a ∧ Ge M2 g R W C Z T2 M3 := by
  have hg := h.2.2.2.2.2.1
  have hB := h.2.2.2.2.2.2.1
  have w := h.2.1.1.1
  have hpn : p ∈ nums a := by
    rcases hp with z | z | z <;> rw [z]
    · exact n30 hg
    · exact n32 hg
    · exact n34 hg
  have m := mv_add w hpn t
  obtain ⟨-, -, -, -, t5, -⟩ := t
  have hin : ∀ q, q = p → q ∈ nums a := fun q hq => by rw [hq]; exact hpn
  have gI := m.gI w hg hin (fun z => z)
  have o13 := goffx (i := 13) hg (by decide) (by decide)
  have c13 := m.cell w hin o13.1 o13.2.1 o13.2.2 (fun z => z)
  have nn : ∀ n, so M3 g n = so M2 g n ∧ va M3 g n = va M2 g n ∧ fp M3 g n = fp M2 g n ∧ np M3 g n = np M2 g n := fun n => ⟨(m.lst (tL_in (q := g + 1) hg (by omega)) (by omega)).2.1 n, (m.lst (tL_in (q := g + 7) hg (by omega)) (by omega)).2.1 n, (m.lst (tL_in (q := g + 9) hg (by omega)) (by omega)).2.1 n, (m.lst (tL_in (q := g + 11) hg (by omega)) (by omega)).2.1 n⟩
  refine ⟨h.mv m hin (fun q hq => by omega) (by rw [gI]; omega) (by rw [gI]; omega) (by rw [gI]; omega) (fun r _ => by rw [c13]), m, gI, (m.fld w hin (fun z => z)).1, ge_mvl w hg m hin (fun i hi => ?_) (fun i hi => ?_) (fun _ _ _ z => z) (fun n _ => nn n)⟩
  · by_cases z : p = g + 30
    · rw [← z]; exact t5 i (by omega)
    · exact (m.lst (n30 hg) (fun y => z y.symm)).2.1 i
  · by_cases z : p = g + 34
    · rw [← z]; exact t5 i (by omega)
    · exact (m.lst (n34 hg) (fun y => z y.symm)).2.1 i
/-- the root of a rule that has been read -/
theorem rl_rt {t : Int} (hL : Lc M2 a g N T2 K) (g6 : mI M2 g 6 = R) (g12 : mI M2 g 12 = W) (hD : Dg M2 g R W C Z T2 E tg) (h : rlR 0 M2 a g N T2 K T3 t M3) (z : mI M3 a 16 = 0) : Rt M3 g R W T3 E T2 t := by
  have hR := hD.1.1
  have G3 := (rlR.ge (R := R) (W := W) (C := 0) (Z := 0) hL h).2.1 z
  rcases h.2.2.2.2.2 with y | ⟨-, ⟨f, ty⟩, -⟩
  · exact absurd z y
  · refine ⟨T2, R, f, T3, rfl, Nat.le_refl _, fun r hr q => ?_, ty.mono (fun v hv => ?_), Nat.le_refl _⟩
    · rw [(G3.1.2.1 r hr).1] at q
      obtain ⟨n, f', -, q2, -⟩ := hD.2.2.1 r hr q
      exact q2
    · unfold nmr at hv
      rw [g6, g12] at hv
      rcases hv with ⟨h1, h2, h3, h4⟩ | ⟨-, h1, h2, h3⟩
      · have gt := G3.1.tr (r := v.toNat) hR (by omega)
        rw [show ((v.toNat : Nat) : Int) = v by omega] at gt
        exact ⟨Or.inl ⟨h1, h2, Or.inl trivial⟩, gt⟩
      · exact ⟨Or.inr ⟨trivial, h1, h2⟩, G3.1.tv h1 h2⟩
/-- inside a command item -/
def cI (M : mM) (a g N K R W C : Nat) (E : Nat → Nat) (tg : Int) (T2 Z2 : Nat) (M2 : mM) : Prop := Lc M2 a g N T2 K ∧ iF M a g M2 ∧ (mI M2 g = mI M g ∧ mI M2 g 6 = R ∧ mI M2 g 12 = W) ∧ (ln M2 (g + 30) = Z2 ∧ ln M2 (g + 32) = Z2 ∧ ln M2 (g + 34) = Z2) ∧ (mI M2 a 16 = 0 → Dg M2 g R W C Z2 T2 E tg)
/-- a set has been read -/
def siQ (M : mM) (a g N K R W C : Nat) (E : Nat → Nat) (tg : Int) (c T2 Z2 Tm : Nat) (M2 : mM) (x : Int) (M3 : mM) : Prop := (x = (c : Int) ∨ x = (c + 1 : Nat)) ∧ Mv (itP a g) (fun y => y = a) M2 a M3 ∧ ∃ T3 Z3 : Nat, cI M a g N K R W C E tg T3 Z3 M3 ∧ (T2 ≤ T3 ∧ T3 ≤ T2 + Tm ∧ Z2 ≤ Z3 ∧ Z3 ≤ Z2 + 1) ∧ (mI M3 a 16 = 0 → x = (c + 1 : Nat) ∧ Ge M2 g R W (C + 1) Z2 T2 M3)
theorem si_stop {c Tm : Nat} {cc p : Int} (h : cI M a g N K R W C E tg T2 Z2 M2) (hc : cc ≠ 0) (q : Mv (fun _ => False) (fun x => x = a) M2 a M3 ∧ mI M3 a 16 = cc ∧ mI M3 a 17 = p ∧ ∀ i, i ≠ 16 → i ≠ 17 → mI M3 a i = mI M2 a i) : siQ M a g N K R W C E tg c T2 Z2 Tm M2 c M3 := by
  obtain ⟨L2, I2, g2, z2, D2⟩ := h
  obtain ⟨L3, g3, G3, z3, c18⟩ := L2.sp (R := R) (W := W) (C := C) (Z := Z2) q.1 (fun _ z => z) (fun _ z => z)
  have w2 := L2.2.1.1.1
  have z16 : mI M3 a 16 ≠ 0 := by rw [q.2.1]; exact hc
  refine ⟨Or.inl rfl, q.1.mono (fun _ z => z.elim) (fun x z => z) (itP_lt w2), T2, Z2, ⟨L3, I2.trans (iF.mk w2 q.1 (fun _ z => z.elim) (fun x z => Or.inl z) (fun i i1 i2 _ => q.2.2.2 i i1 i2)), ⟨g3.trans g2.1, by rw [g3]; exact g2.2.1, by rw [g3]; exact g2.2.2⟩, ⟨by rw [z3.1]; exact z2.1, by rw [z3.2.1]; exact z2.2.1, by rw [z3.2.2]; exact z2.2.2⟩, fun z => absurd z z16⟩, ⟨Nat.le_refl _, by omega, Nat.le_refl _, by omega⟩, fun z => absurd z z16⟩
end SI
end
section
/-! The reference: setItem. -/
section SI2
variable {G : mG} {d a g R W C T2 Z2 N K : Nat} {M M2 M3 : mM} {E : Nat → Nat} {tg : Int}
/-- three numbers of a set are put down -/
theorem si_add {c v T3 : Nat} {pl : Int} {Tm : Nat} {M4 M5 M6 : mM} (h : cI M a g N K R W C E tg T2 Z2 M2) (z2 : mI M2 a 16 = 0) (hv : v < W) (t1 : T2 < T3) (t2 : T3 ≤ T2 + Tm) (Rl : rlR 0 M2 a g N T2 K T3 (mI M2 (g + 18) v) M3) (a4 : adQ M3 (g + 30) v M4) (a5 : adQ M4 (g + 32) pl M5) (a6 : adQ M5 (g + 34) (T2 : Int) M6) : siQ M a g N K R W C E tg c T2 Z2 Tm M2 (c + 1 : Nat) M6 := by
  obtain ⟨L2, I2, ⟨g2, g6, g12⟩, ⟨z30, z32, z34⟩, D2⟩ := h
  have D2 := D2 z2
  have hg := L2.2.2.2.2.2.1
  have w2 := L2.2.1.1.1
  have hR := D2.1.1
  obtain ⟨I3, G3, y30, y32, y34⟩ := rlR.ge (R := R) (W := W) (C := C + 1) (Z := Z2) L2 Rl
  have L3 := Rl.2.1
  have g3 : mI M3 g = mI M2 g := Rl.2.2.2.1
  have m3 : Mv (itP a g) (fun y => y = a) M2 a M3 := Rl.1.mono (fun q hq => rlP_it hg hq) (fun x hx => hx) (itP_lt w2)
  have w3 := L3.2.1.1.1
  have lt3 : ∀ {p : Nat} {Mx : mM}, p = g + 30 ∨ p = g + 32 ∨ p = g + 34 → Wd Mx a → ∀ q, q = p → itP a g q := fun hp _ q hq => by
    refine ⟨?_, by omega⟩
    rw [hq]
    rcases hp with z | z | z <;> rw [z]
    · exact n30 hg
    · exact n32 hg
    · exact n34 hg
  obtain ⟨L4, m4, g4, i4, G4⟩ := gadd (R := R) (W := W) (C := C + 1) (Z := Z2) L3 (Or.inl rfl) (by rw [y30, z30]; omega) a4
  obtain ⟨L5, m5, g5, i5, G5⟩ := gadd (R := R) (W := W) (C := C + 1) (Z := Z2) L4 (Or.inr (Or.inl rfl)) (by rw [(m4.lst (n32 hg) (by omega)).1, y32, z32]; omega) a5
  have e34 : ln M5 (g + 34) = (Z2 : Int) := by rw [(m5.lst (n34 hg) (by omega)).1, (m4.lst (n34 hg) (by omega)).1, y34, z34]
  obtain ⟨L6, m6, g6', i6, G6⟩ := gadd (R := R) (W := W) (C := C + 1) (Z := Z2) L5 (Or.inr (Or.inr rfl)) (by rw [e34]; omega) a6
  have m4' : Mv (itP a g) (fun y => y = a) M3 a M4 := m4.mono (lt3 (Or.inl rfl) w3) (fun _ z => z.elim) (itP_lt w3)
  have m5' : Mv (itP a g) (fun y => y = a) M4 a M5 := m5.mono (lt3 (Or.inr (Or.inl rfl)) w3) (fun _ z => z.elim) (itP_lt m4.2.1)
  have m6' : Mv (itP a g) (fun y => y = a) M5 a M6 := m6.mono (lt3 (Or.inr (Or.inr rfl)) w3) (fun _ z => z.elim) (itP_lt m5.2.1)
  have mm := ((m3.trans m4').trans m5').trans m6'
  have iA : mI M6 a = mI M3 a := by rw [i6, i5, i4]
  have gI : mI M6 g = mI M2 g := by rw [g6', g5, g4, g3]
  have l30 : ln M6 (g + 30) = (Z2 + 1 : Nat) := by rw [(m6.lst (n30 hg) (by omega)).1, (m5.lst (n30 hg) (by omega)).1, a4.2.2.2.1, y30, z30]; omega
  have l32 : ln M6 (g + 32) = (Z2 + 1 : Nat) := by rw [(m6.lst (n32 hg) (by omega)).1, a5.2.2.2.1, (m4.lst (n32 hg) (by omega)).1, y32, z32]; omega
  have l34 : ln M6 (g + 34) = (Z2 + 1 : Nat) := by rw [a6.2.2.2.1, e34]; omega
  have t30 : nt M6 (g + 30) Z2 = (v : Int) := by
    rw [(m6.lst (n30 hg) (by omega)).2.1, (m5.lst (n30 hg) (by omega)).2.1]
    have := a4.2.2.2.2.2.1
    rw [y30, z30, Int.toNat_natCast] at this
    exact this
  have t34 : nt M6 (g + 34) Z2 = (T2 : Int) := by
    have := a6.2.2.2.2.2.1
    rw [e34, Int.toNat_natCast] at this
    exact this
  have If : iF M2 a g M6 := ⟨mm.mono (fun q hq => hq) (fun x hx => Or.inl hx) (itP_lt w2), fun i i1 i2 i3 => by rw [iA]; exact I3.2 i i1 i2 i3⟩
  have G36 := (G4.trans G5).trans G6
  have fin : mI M6 a 16 = 0 → Ge M2 g R W (C + 1) Z2 T2 M6 ∧ Dg M6 g R W C (Z2 + 1) T3 E tg := fun z => by
    rw [iA] at z
    have G3 := G3 z
    have G26 := G3.trans (G36.down (Nat.le_refl _) (Nat.le_refl _) (Nat.le_refl _) (Nat.le_refl _) (Nat.le_of_lt t1))
    have D6 := ((D2.ge (G26.down (Nat.le_refl _) (Nat.le_refl _) (Nat.le_succ _) (Nat.le_refl _) (Nat.le_refl _))).tu (Nat.le_of_lt t1))
    have rt := (rl_rt L2 g6 g12 D2 Rl z).gn G36.1 hR
    refine ⟨G26, D6.zu ?_⟩
    rw [t30, t34]
    refine ⟨by omega, by omega, ?_⟩
    rw [G26.1.tv (by omega) (by omega)]
    have b01 := (D2.2.2.2.1 v hv).2.2.2.2.2
    have e1 : tn M2 g (100 + (v : Int)) = mI M2 (g + 18) v := by
      unfold tn
      rw [if_pos (show (100 : Int) ≤ 100 + (v : Int) by omega), show (100 + (v : Int) - 100).toNat = v by omega]
      rcases b01 with y | y <;> rw [y] <;> rfl
    rw [e1]
    exact rt
  exact ⟨Or.inr rfl, mm, T3, Z2 + 1, ⟨L6, I2.trans If, ⟨gI.trans g2, by rw [gI]; exact g6, by rw [gI]; exact g12⟩, ⟨l30, l32, l34⟩, fun z => (fin z).2⟩, ⟨Nat.le_of_lt t1, t2, by omega, by omega⟩, fun z => ⟨rfl, (fin z).1⟩⟩
theorem s_si61 {p c v Tm : Nat} (hc : cI M a g N K R W C E tg T2 Z2 M2) (z2 : mI M2 a 16 = 0) (hv : v < W) (he : Eo (wk M2 a) 6 (p + 4) c) (hcN : c < N) (hT2 : T2 ≤ p) (hZ2 : Z2 ≤ 16384) (hTm : c - (p + 4) ≤ Tm) : ∀ (n i : Nat), i + n = Z2 → h_MM_setItem_61 G (d + 7) a p c v i M2 (fun x M3 => i32 x ∧ mOk M3 ∧ siQ M a g N K R W C E tg c T2 Z2 Tm M2 x M3) := by
  obtain ⟨L2, I2, ⟨g2, g6, g12⟩, ⟨z30, z32, z34⟩, D2⟩ := id hc
  have hN := L2.2.1.1.2.2
  have hg := L2.2.2.2.2.2.1
  have w2 := L2.2.1.1.1
  have hD := D2 z2
  have hB := hD.1
  have hlt := he.pr.1
  have z30' : mI M2 (g + 30) 1 = (Z2 : Int) := z30
  have ip : i32 (p : Int) := i32s (by omega) (by omega)
  have ic : i32 (c : Int) := i32s (by omega) (by omega)
  have ic1 : i32 ((c + 1 : Nat) : Int) := i32s (by omega) (by omega)
  have iv : i32 (v : Int) := i32s (by omega) (by omega)
  have b01 := (hD.2.2.2.1 v hv).2.2.2.2.2
  have v12 : ((0 : Int) ≤ v ∧ (v : Int) < ((12 : Nat) : Int)) := by omega
  have hT3 : T2 + (c - (p + 4)) ≤ 30000 := by omega
  have hZ3 : (Z2 : Int) ≤ 32768 := by omega
  have p1N : p + 1 < N := by omega
  have pN : p < N := by omega
  have iT : i32 (T2 : Int) := i32s (by omega) (by omega)
  intro n
  induction n with
  | zero =>
    intro i hi
    have ei : i = Z2 := by omega
    subst ei
    refine k_MM_setItem_61 L2.1 ip ic iv (i32s (by omega) (by omega)) ?_
    rw [show mR M2 a 10 = g from L2.2.2.2.2.1, show mR M2 g 27 = g + 30 from (w2.gp hg).2.2.1.2.2.2.2.2.2.2.2.2.2.2.2.1, show mR M2 g 13 = g + 18 from (w2.gp hg).2.2.1.1, z30', Int.toNat_natCast, show (p : Int) + 4 = ((p + 4 : Nat) : Int) by omega]
    refine ⟨w2.1.1, (w2.gp hg).1, (w2.nu (n30 hg)).1, fun _ => ⟨(w2.gp hg).2.2.2.2.1.1.1, by rw [(w2.gp hg).2.2.2.2.1.1.2]; exact v12, ?_⟩, fun q => absurd (Int.le_refl _) q⟩
    refine (s_MM_rule1 (d := d) (co := 0) ⟨by decide, by decide⟩ b01 L2 hT3 he hcN).mono (fun x M3 q3 => ?_)
    obtain ⟨ex, T3, t1, t2, Rl⟩ := q3
    subst ex
    have L3 := Rl.2.1
    have w3 := L3.2.1.1.1
    obtain ⟨-, -, y30, y32, y34⟩ := rlR.ge (R := R) (W := W) (C := C + 1) (Z := i) L2 Rl
    rw [show mR M3 a 10 = g from L3.2.2.2.2.1, show mR M3 g 27 = g + 30 from (w3.gp hg).2.2.1.2.2.2.2.2.2.2.2.2.2.2.2.1]
    refine ⟨iT, L3.1, w3.1.1, (w3.gp hg).1, (w3.nu (n30 hg)).1, (s_MN_add iv L3.1 (w3.nu (n30 hg)) (by rw [y30, z30]; exact hZ3)).mono (fun M4 a4 => ?_)⟩
    obtain ⟨L4, m4, g4, i4, G4⟩ := gadd (R := R) (W := W) (C := C + 1) (Z := i) L3 (Or.inl rfl) (by rw [y30, z30]; exact Int.le_refl _) a4
    have w4 := L4.2.1.1.1
    have e32 : ln M4 (g + 32) = (i : Int) := by rw [(m4.lst (n32 hg) (by omega)).1, y32, z32]
    rw [show mR M4 a 10 = g from L4.2.2.2.2.1, show mR M4 g 28 = g + 32 from (w4.gp hg).2.2.1.2.2.2.2.2.2.2.2.2.2.2.2.2.1]
    refine ⟨L4.1, w4.1.1, (w4.gp hg).1, (s_MM_place0 (d := d + 6) L4.1 L4.2.1 pN).mono (fun y M5 h5 => ?_)⟩
    obtain ⟨e5, hy⟩ := h5
    subst e5
    have hy32 : i32 y := by rw [hy]; exact (L4.1 _ _).1
    refine ⟨hy32, L4.1, (w4.nu (n32 hg)).1, (s_MN_add hy32 L4.1 (w4.nu (n32 hg)) (by rw [e32]; exact hZ3)).mono (fun M6 a6 => ?_)⟩
    obtain ⟨L6, m6, g6', i6, G6⟩ := gadd (R := R) (W := W) (C := C + 1) (Z := i) L4 (Or.inr (Or.inl rfl)) (by rw [e32]; exact Int.le_refl _) a6
    have w6 := L6.2.1.1.1
    have e34 : ln M6 (g + 34) = (i : Int) := by rw [(m6.lst (n34 hg) (by omega)).1, (m4.lst (n34 hg) (by omega)).1, y34, z34]
    rw [show mR M6 a 10 = g from L6.2.2.2.2.1, show mR M6 g 29 = g + 34 from (w6.gp hg).2.2.1.2.2.2.2.2.2.2.2.2.2.2.2.2.2]
    refine ⟨L6.1, w6.1.1, (w6.gp hg).1, (w6.nu (n34 hg)).1, (s_MN_add iT L6.1 (w6.nu (n34 hg)) (by rw [e34]; exact hZ3)).mono (fun M7 a7 => ?_)⟩
    have key := si_add (c := c) (Tm := Tm) hc z2 hv t1 (by omega) Rl a4 a6 a7
    rw [show (c : Int) + 1 = ((c + 1 : Nat) : Int) by omega]
    exact ⟨a7.1, ic1, a7.1, key⟩
  | succ n ih =>
    intro i hi
    have nx := ih (i + 1) (by omega)
    refine k_MM_setItem_61 L2.1 ip ic iv (i32s (by omega) (by omega)) ?_
    rw [show mR M2 a 10 = g from L2.2.2.2.2.1, show mR M2 g 27 = g + 30 from (w2.gp hg).2.2.1.2.2.2.2.2.2.2.2.2.2.2.2.1, z30', show (p : Int) + 1 = ((p + 1 : Nat) : Int) by omega]
    refine ⟨w2.1.1, (w2.gp hg).1, (w2.nu (n30 hg)).1, fun q => absurd q (by omega), fun _ => (s_MN_at L2.1 (w2.nu (n30 hg)) (by rw [z30]; omega)).mono (fun z M4 h4 => ?_)⟩
    obtain ⟨e4, hz⟩ := h4
    subst e4
    refine ⟨by rw [hz]; exact (L2.1 _ _).1, L2.1, fun _ => ⟨w2.1.1, (s_MM_place0 (d := d + 6) L2.1 L2.2.1 p1N).mono (fun y M5 h5 => ?_)⟩, fun _ => ?_⟩
    · obtain ⟨e5, hy⟩ := h5
      subst e5
      have hy32 : i32 y := by rw [hy]; exact (L2.1 _ _).1
      exact ⟨hy32, L2.1, w2.1.1, (s_MM_stop ⟨by decide, by decide⟩ hy32 L2.1 w2).mono (fun M6 h6 => ⟨h6.1.1, ic, h6.1.1, si_stop hc (by decide) h6⟩)⟩
    · rw [show ((i + 1 : Nat) : Int) = (i : Int) + 1 by omega] at nx
      exact nx
end SI2
end
section
/-! The reference: setItem, to its end. -/
section SI3
variable {G : mG} {d a g R W C T2 Z2 N K : Nat} {M M2 : mM} {E : Nat → Nat} {tg : Int}
theorem Lc.rd {p j : Nat} {Q : Int → mM → Prop} {T : Nat} (h : Lc M a g N T K) (hp : p ∈ nums a) (hk : (j : Int) < ln M p) (hQ : ∀ z, z = nt M p j → i32 z → Q z M) : Ci G y_MN_at d [vr p, vi j] M Q := by
  refine (s_MN_at h.1 (h.2.1.1.1.nu hp) hk).mono (fun z M1 e1 => ?_)
  obtain ⟨e1, hz⟩ := e1
  subst e1
  exact hQ z hz (by rw [hz]; exact (h.1 _ _).1)
theorem Lc.co {k e T : Nat} {Q : Int → mM → Prop} (h : Lc M a g N T K) (hk : k < e) (he : e < N) (h1 : ∀ t, 1 ≤ t → t ≤ e - k → 1 ≤ dp (wk M a) k t) (h2 : dp (wk M a) k (e + 1 - k) = 0) (hQ : Q e M) : Ci G y_MM_closeOf (d + 2) [vr a, vi k] M Q := by
  refine (s_MM_closeOf (d := d) h.1 h.2.1.1 hk he (fun t t1 t2 => by have := h1 t t1 t2; omega) (by rw [show e - k + 1 = e + 1 - k by omega, h2]; omega)).mono (fun x M1 e1 => ?_)
  obtain ⟨e1, hx⟩ := e1
  subst e1
  rw [hx]
  exact hQ
theorem s_MM_setItem {p c Z0 Tm : Nat} (hc : cI M a g N K R W C E tg T2 Z2 M2) (z2 : mI M2 a 16 = 0) (w0 : wk M2 a p = 36) (w1 : wk M2 a (p + 1) = 1) (w2' : wk M2 a (p + 2) = 38) (w3 : wk M2 a (p + 3) = 23) (he : Eo (wk M2 a) 6 (p + 4) c) (w4 : wk M2 a c = 37) (hcN : c < N) (hT2 : T2 ≤ p) (hZ2 : Z2 ≤ 16384) (hZ0 : Z0 ≤ Z2) (hTm : c - (p + 4) ≤ Tm) : Ci G y_MM_setItem (d + 8) [vr a, vi p, vi Z0] M2 (fun x M3 => i32 x ∧ mOk M3 ∧ siQ M a g N K R W C E tg c T2 Z2 Tm M2 x M3) := by
  obtain ⟨L2, I2, ⟨g2, g6, g12⟩, ⟨z30, z32, z34⟩, D2⟩ := id hc
  have hN := L2.2.1.1.2.2
  have w2 := L2.2.1.1.1
  have hlt := he.pr.1
  have hB := (D2 z2).1
  have hnm := L2.2.2.1
  have hK := hnm.2.2.2.1
  have l87 := hnm.2.1
  have l89 := hnm.2.2.1
  obtain ⟨-, s1, s2⟩ := Sg.set w0 w1 w2' w3 he w4
  have p1N : p + 1 < N := by omega
  have ic : i32 (c : Int) := i32s (by omega) (by omega)
  refine k_MM_setItem L2.1 (i32s (by omega) (by omega)) (i32s (by omega) (by omega)) ⟨w2.1.1, L2.co (d := d + 5) (by omega) hcN s1 s2 ⟨ic, L2.1, w2.1.1, ?_⟩⟩
  rw [show (p : Int) + 1 = ((p + 1 : Nat) : Int) by omega]
  have flt : Ci G y_MM_place0 (d + 7) [vr a, vi ((p + 1 : Nat) : Int)] M2 (fun x13 M12 => i32 x13 ∧ mOk M12 ∧ (mK M12 a = 14 ∧ Cv G y_MM_stop (d + 7) [vr a, vi 2, vi x13] M12 (fun M16 => mOk M16 ∧ (i32 (c : Int) ∧ mOk M16 ∧ siQ M a g N K R W C E tg c T2 Z2 Tm M2 c M16)))) := by
    refine (s_MM_place0 (d := d + 6) L2.1 L2.2.1 p1N).mono (fun y M5 h5 => ?_)
    obtain ⟨e5, hy⟩ := h5
    subst e5
    have hy32 : i32 y := by rw [hy]; exact (L2.1 _ _).1
    exact ⟨hy32, L2.1, w2.1.1, (s_MM_stop ⟨by decide, by decide⟩ hy32 L2.1 w2).mono (fun M6 h6 => ⟨h6.1.1, ic, h6.1.1, si_stop hc (by decide) h6⟩)⟩
  refine L2.fd (d := d + 4) p1N (fun r r0 r1 => ⟨i32s (by omega) (by omega), L2.1, fun _ => ⟨w2.1.1, flt⟩, fun q => ⟨w2.1.1, ?_⟩⟩)
  obtain ⟨n, hn, hnK⟩ : ∃ n : Nat, r = (n : Int) ∧ n < K := ⟨r.toNat, by omega, by omega⟩
  subst hn
  obtain ⟨-, hk, -⟩ := hnm.2.2.2.2 n hnK
  rw [show mR M2 a 14 = a + 87 from w2.1.2.2.2.2.1.2.1]
  refine ⟨(w2.nu n87).1, L2.rd n87 (by rw [l87]; omega) (fun s hs is => ⟨is, L2.1, fun q3 => ⟨w2.1.1, ?_⟩, fun q3 => ⟨w2.1.1, flt⟩⟩)⟩
  rw [show mR M2 a 15 = a + 89 from w2.1.2.2.2.2.1.2.2.1]
  refine ⟨(w2.nu n89).1, L2.rd n89 (by rw [l89]; omega) (fun x hx ix => ⟨ix, L2.1, ?_⟩)⟩
  rw [← hs, ← hx, g12] at hk
  obtain ⟨v, hv, hvW⟩ : ∃ v : Nat, x = (v : Int) ∧ v < W := ⟨x.toNat, by omega, by omega⟩
  subst hv
  exact s_si61 hc z2 hvW he hcN hT2 hZ2 hTm (Z2 - Z0) Z0 (by omega)
end SI3
end
section
/-! The reference: a branch, its sets and its end. -/
section BR
variable {G : mG} {d a g R W C T2 Z2 N K : Nat} {M M2 M3 : mM} {E : Nat → Nat} {tg : Int}
/-- a number of the command that is being read -/
theorem cI.st {i j : Nat} {v : Int} (h : cI M a g N K R W C E tg T2 Z2 M2) (hv : i32 v) (hi : 22 ≤ i ∧ i ≤ 29) (hj : (i ≤ 25 → C ≤ j) ∧ (26 ≤ i → 8 * C ≤ j)) (f1 : frO (13 + i)) (f2 : frO (49 + i)) (e : M3 = mUI M2 (g + i) j v) : cI M a g N K R W C E tg T2 Z2 M3 ∧ (∀ y k, mI M3 y k = if y = g + i ∧ k = j then v else mI M2 y k) ∧ mI M3 a = mI M2 a ∧ Gn M2 g R W T2 M3 := by
  obtain ⟨L2, I2, g2, z2, D2⟩ := h
  obtain ⟨L3, I3, ⟨g3, a3⟩, m3, f3, l3⟩ := gsti L2 hv (by omega) f1 f2 (fun z => by omega) e
  have hg := L2.2.2.2.2.2.1
  have G3 := ge_st (R := R) (W := W) (C := C) (Z := Z2) (T := T2) hg m3 f3 l3 (by omega) (by omega) (fun z => hj.1 (by omega)) (fun z => hj.2 z)
  exact ⟨⟨L3, I2.trans I3, ⟨g3.trans g2.1, by rw [g3]; exact g2.2.1, by rw [g3]; exact g2.2.2⟩, ⟨by rw [(m3.lst (n30 hg) (fun z => z)).1]; exact z2.1, by rw [(m3.lst (n32 hg) (fun z => z)).1]; exact z2.2.1, by rw [(m3.lst (n34 hg) (fun z => z)).1]; exact z2.2.2⟩, fun z => (D2 (by rw [← a3]; exact z)).ge G3⟩, f3, a3, G3.1⟩
/-- inside a branch: its place is x -/
def bI (M : mM) (a g N K R W C : Nat) (E : Nat → Nat) (tg : Int) (b Z0 T2 Z2 : Nat) (M2 : mM) : Prop := cI M a g N K R W C E tg T2 Z2 M2 ∧ mI M2 (g + 28) (8 * C + b) = (Z0 : Int) ∧ Z0 ≤ Z2 ∧ mI M2 (g + 25) C = (b : Int) ∧ (mI M2 a 16 = 0 → Cc M2 g R W T2 E Z2 C ∧ Rt M2 g R W T2 E (mI M2 (g + 26) (8 * C + b)) 0)
/-- a branch has been read -/
def brQ (M : mM) (a g N K R W C : Nat) (E : Nat → Nat) (tg : Int) (s : Nat) (x : Int) (M3 : mM) : Prop := (0 ≤ x ∧ x ≤ N) ∧ ∃ T3 Z3 : Nat, cI M a g N K R W C E tg T3 Z3 M3 ∧ (mI M3 a 16 = 0 → x = (s : Int) ∧ T3 ≤ s ∧ Z3 ≤ s ∧ Cc M3 g R W T3 E Z3 C)
/-- the branch's end -/
theorem br_end {b Z0 s : Nat} {x : Int} {M4 : mM} (hC : C < 60) (hb : b < 8) (h : bI M a g N K R W C E tg b Z0 T2 Z2 M2) (hx : 0 ≤ x ∧ x ≤ N) (hs : mI M2 a 16 = 0 → x = (s : Int) ∧ T2 ≤ s ∧ Z2 ≤ s) (hZ : Z2 ≤ 16385) (e3 : M3 = mUI M2 (g + 29) (8 * C + b) ((Z2 : Int) - Z0)) (e4 : M4 = mUI M3 (g + 25) C ((b : Int) + 1)) : mOk M4 ∧ brQ M a g N K R W C E tg s x M4 := by
  obtain ⟨c2, q28, hZ0, q25, hc⟩ := h
  obtain ⟨c3, f3, a3, G3⟩ := c2.st (i := 29) (i32s (by omega) (by omega)) (by omega) (by omega) (by decide) (by decide) e3
  obtain ⟨c4, f4, a4, G4⟩ := c3.st (i := 25) (i32s (by omega) (by omega)) (by omega) (by omega) (by decide) (by decide) e4
  refine ⟨c4.1.1, hx, T2, Z2, c4, fun z => ?_⟩
  have z2 : mI M2 a 16 = 0 := by rw [← a3, ← a4]; exact z
  obtain ⟨s1, s2, s3⟩ := hs z2
  obtain ⟨k1, k2⟩ := hc z2
  have G24 := G3.trans G4
  have hR := (c2.2.2.2.2 z2).1.1
  obtain ⟨n1, n2, n3, n4⟩ := k1
  refine ⟨s1, s2, s3, ?_⟩
  have r24 : mI M4 (g + 24) C = mI M2 (g + 24) C := by rw [f4, if_neg (fun z => by omega), f3, if_neg (fun z => by omega)]
  have r25 : mI M4 (g + 25) C = (b : Int) + 1 := by rw [f4, if_pos ⟨rfl, rfl⟩]
  unfold Cc
  rw [r24, r25]
  refine ⟨n1.gn G24 hR, by omega, by omega, fun b' hb' => ?_⟩
  have r26 : mI M4 (g + 26) (8 * C + b') = mI M2 (g + 26) (8 * C + b') := by rw [f4, if_neg (fun z => by omega), f3, if_neg (fun z => by omega)]
  have r28 : mI M4 (g + 28) (8 * C + b') = mI M2 (g + 28) (8 * C + b') := by rw [f4, if_neg (fun z => by omega), f3, if_neg (fun z => by omega)]
  by_cases y : b' = b
  · subst y
    have r29 : mI M4 (g + 29) (8 * C + b') = (Z2 : Int) - Z0 := by rw [f4, if_neg (fun z => by omega), f3, if_pos ⟨rfl, rfl⟩]
    unfold Bc
    rw [r26, r28, r29, q28]
    exact ⟨k2.gn G24 hR, by omega, by omega, by omega⟩
  · have r29 : mI M4 (g + 29) (8 * C + b') = mI M2 (g + 29) (8 * C + b') := by rw [f4, if_neg (fun z => by omega), f3, if_neg (fun z => by omega)]
    exact (n4 b' (by omega)).gn G24 hR ⟨r26, r28, r29⟩
theorem s_br_end {b Z0 s k : Nat} {l8 : Int} (hC : C < 60) (hb : b < 8) (h : bI M a g N K R W C E tg b Z0 T2 Z2 M2) (hk : k ≤ N) (hs : mI M2 a 16 = 0 → k = s ∧ T2 ≤ s ∧ Z2 ≤ s) (hZ : Z2 ≤ 16385) (i8 : i32 l8) (h8 : l8 = 0 ∨ ¬ (mI M2 a 16 = 0)) : h_MM_branch0_128 G (d + 8) a C b (8 * C + b : Nat) k l8 M2 (fun x M3 => i32 x ∧ mOk M3 ∧ brQ M a g N K R W C E tg s x M3) := by
  have L2 := h.1.1
  have hN := L2.2.1.1.2.2
  have hg := L2.2.2.2.2.2.1
  have w2 := L2.2.1.1.1
  have z30 : mI M2 (g + 30) 1 = (Z2 : Int) := h.1.2.2.2.1.1
  have hZ0 := h.2.2.1
  have b480 : ((0 : Int) ≤ ((8 * C + b : Nat) : Int) ∧ ((8 * C + b : Nat) : Int) < ((480 : Nat) : Int)) := by omega
  have b60 : ((0 : Int) ≤ (C : Int) ∧ (C : Int) < ((60 : Nat) : Int)) := by omega
  refine k_MM_branch0_128 L2.1 (i32s (by omega) (by omega)) (i32s (by omega) (by omega)) (i32s (by omega) (by omega)) (i32s (by omega) (by omega)) i8 ⟨fun _ => w2.1.1, fun _ => ⟨w2.1.1, ?_⟩, fun q => absurd h8 q⟩
  rw [show mR M2 a 10 = g from L2.2.2.2.2.1, show mR M2 g 27 = g + 30 from (w2.gp hg).2.2.1.2.2.2.2.2.2.2.2.2.2.2.2.1, show mR M2 g 25 = g + 28 from (w2.gp hg).2.2.1.2.2.2.2.2.2.2.2.2.2.1, show mR M2 g 26 = g + 29 from (w2.gp hg).2.2.1.2.2.2.2.2.2.2.2.2.2.2.1, z30, Int.toNat_natCast, h.2.1]
  refine ⟨(w2.gp hg).1, (w2.nu (n30 hg)).1, (w2.gp hg).2.2.2.2.2.2.2.2.2.2.2.1.1, by rw [(w2.gp hg).2.2.2.2.2.2.2.2.2.2.2.1.2]; exact b480, (w2.gp hg).2.2.2.2.2.2.2.2.2.2.2.2.1, by rw [(w2.gp hg).2.2.2.2.2.2.2.2.2.2.2.2.2]; exact b480, i32s (by omega) (by omega), fun M3 e3 => ?_⟩
  obtain ⟨c3, f3, a3, G3⟩ := h.1.st (i := 29) (i32s (by omega) (by omega)) (by omega) (by omega) (by decide) (by decide) e3
  have L3 := c3.1
  have w3 := L3.2.1.1.1
  rw [show mR M3 a 10 = g from L3.2.2.2.2.1, show mR M3 g 22 = g + 25 from (w3.gp hg).2.2.1.2.2.2.2.2.2.2.1, Int.toNat_natCast]
  refine ⟨(w3.gp hg).1, (w3.gp hg).2.2.2.2.2.2.2.2.1.1, by rw [(w3.gp hg).2.2.2.2.2.2.2.2.1.2]; exact b60, i32s (by omega) (by omega), fun M4 e4 => ?_⟩
  have key := br_end (x := (k : Int)) hC hb h (by omega) (fun z => ⟨by have := hs z; omega, (hs z).2⟩) hZ e3 e4
  exact ⟨i32s (by omega) (by omega), key⟩
end BR
end
section
/-! The reference: branch. -/
section BR2
variable {G : mG} {d a g R W C T2 Z2 N K : Nat} {M M2 M3 : mM} {E : Nat → Nat} {tg : Int}
theorem cc_part {b : Nat} {M4 : mM} {T3 : Nat} (h : Cc M2 g R W T2 E Z2 C) (hR : R ≤ 60) (hT : T2 ≤ T3) (hb : mI M2 (g + 25) C = (b : Int)) (G4 : Gn M2 g R W T2 M4) (c24 : mI M4 (g + 24) C = mI M2 (g + 24) C) (c25 : mI M4 (g + 25) C = mI M2 (g + 25) C) (cb : ∀ b' : Nat, b' < b → mI M4 (g + 26) (8 * C + b') = mI M2 (g + 26) (8 * C + b') ∧ mI M4 (g + 28) (8 * C + b') = mI M2 (g + 28) (8 * C + b') ∧ mI M4 (g + 29) (8 * C + b') = mI M2 (g + 29) (8 * C + b')) : Cc M4 g R W T3 E Z2 C := by
  obtain ⟨h1, h2, h3, h4⟩ := h
  have hE : ∀ r, r < R → E r = E r := fun _ _ => rfl
  refine Cc.up (T := T2) (Z := Z2) ?_ (Nat.le_refl _) (Nat.le_refl _) hT (Nat.le_refl _) hE
  unfold Cc
  rw [c24, c25]
  exact ⟨h1.gn G4 hR, h2, h3, fun b' hb' => (h4 b' hb').gn G4 hR (cb b' (by omega))⟩
/-- after a set, still inside the branch -/
theorem bI.si {b Z0 c Tm T3 Z3 : Nat} (h : bI M a g N K R W C E tg b Z0 T2 Z2 M2) (z2 : mI M2 a 16 = 0) (m : Mv (itP a g) (fun y => y = a) M2 a M3) (c3 : cI M a g N K R W C E tg T3 Z3 M3) (hT : T2 ≤ T3) (hZ : Z2 ≤ Z3) (k : mI M3 a 16 = 0 → Ge M2 g R W (C + 1) Z2 T2 M3) (hb : b < 8) : bI M a g N K R W C E tg b Z0 T3 Z3 M3 := by
  obtain ⟨c2, q28, hZ0, q25, hc⟩ := h
  have hg := c2.1.2.2.2.2.2.1
  have w2 := c2.1.2.1.1.1
  have hin : ∀ q, itP a g q → q ∈ nums a := fun q hq => hq.1
  have s28 := (m.cellL w2 hin (goffx (i := 28) hg (by decide) (by decide)) (by omega)).1
  have s25 := (m.cellL w2 hin (goffx (i := 25) hg (by decide) (by decide)) (by omega)).1
  refine ⟨c3, by rw [s28]; exact q28, by omega, by rw [s25]; exact q25, fun z => ?_⟩
  have G3 := k z
  obtain ⟨k1, k2⟩ := hc z2
  have hR := (c2.2.2.2.2 z2).1.1
  have hE : ∀ r, r < R → E r = E r := fun _ _ => rfl
  have r0 := Nat.le_refl R
  have w0 := Nat.le_refl W
  refine ⟨(k1.gn G3.1 hR (G3.2.2.2.1 C (by omega))).up r0 w0 hT hZ hE, ?_⟩
  rw [((G3.2.2.2.1 C (by omega)).2.2 b hb).1]
  exact (k2.gn G3.1 hR).up r0 w0 hT hE
theorem s_br_sets {b Z0 s : Nat} (hC : C < 60) (hb : b < 8) (hsN : s < N) (hg : g = a + 13 ∨ g = a + 49) : ∀ (f p T2 Z2 : Nat) (M2 : mM), bI M a g N K R W C E tg b Z0 T2 Z2 M2 → mI M2 a 16 = 0 → Se (wk M a) f p s → T2 ≤ p → Z2 ≤ p → h_MM_branch0_128 G (d + 8) a C b (8 * C + b : Nat) p 1 M2 (fun x M3 => i32 x ∧ mOk M3 ∧ brQ M a g N K R W C E tg s x M3) := by
  intro f
  induction f with
  | zero => intro p T2 Z2 M2 _ _ hs; exact hs.elim
  | succ f ih =>
    intro p T2 Z2 M2 h z2 hse hT2 hZ2
    have sgs := hse.sg.1
    obtain ⟨w0, w1, w2', w3, c, he, w4, hnx⟩ := hse
    have L2 := h.1.1
    have hN := L2.2.1.1.2.2
    have w2 := L2.2.1.1.1
    have hlt := he.pr.1
    have hcs : c + 1 ≤ s := by
      rcases hnx with ⟨y, -⟩ | ⟨-, y⟩
      · omega
      · have := y.sg.1; omega
    have wkE := h.1.2.1.wk hg
    have b480 : ((0 : Int) ≤ ((8 * C + b : Nat) : Int) ∧ ((8 * C + b : Nat) : Int) < ((480 : Nat) : Int)) := by omega
    have cN : c < N := by omega
    have c1N : c + 1 < N := by omega
    have tm : c - (p + 4) ≤ c - (p + 4) := Nat.le_refl _
    have hZ16 : Z2 ≤ 16384 := by omega
    have hZ0 := h.2.2.1
    refine k_MM_branch0_128 L2.1 (i32s (by omega) (by omega)) (i32s (by omega) (by omega)) (i32s (by omega) (by omega)) (i32s (by omega) (by omega)) ⟨by decide, by decide⟩ ⟨fun _ => w2.1.1, fun q => ?_, fun _ => ⟨w2.1.1, ?_⟩⟩
    · rcases q with q | q
      · exact absurd q (by decide)
      · exact absurd z2 q
    rw [show mR M2 a 10 = g from L2.2.2.2.2.1, show mR M2 g 25 = g + 28 from (w2.gp hg).2.2.1.2.2.2.2.2.2.2.2.2.2.1, Int.toNat_natCast, h.2.1]
    refine ⟨(w2.gp hg).1, (w2.gp hg).2.2.2.2.2.2.2.2.2.2.2.1.1, by rw [(w2.gp hg).2.2.2.2.2.2.2.2.2.2.2.1.2]; exact b480, ?_⟩
    refine (s_MM_setItem (d := d) h.1 z2 (by rw [wkE]; exact w0) (by rw [wkE]; exact w1) (by rw [wkE]; exact w2') (by rw [wkE]; exact w3) (by rw [wkE]; exact he) (by rw [wkE]; exact w4) cN hT2 hZ16 hZ0 tm).mono (fun x M3 t3 => ?_)
    obtain ⟨ix, o3, hx, m3, T3, Z3, c3, ⟨t1, t2, t3', t4⟩, k3⟩ := t3
    have B3 := h.si (c := c) (Tm := 0) z2 m3 c3 t1 t3' (fun z => (k3 z).2) hb
    have L3 := c3.1
    have w3 := L3.2.1.1.1
    have wkE3 := c3.2.1.wk hg
    have hT3 : T3 ≤ c + 1 := by omega
    have hZ3 : Z3 ≤ c + 1 := by omega
    refine ⟨ix, o3, w3.1.1, ?_⟩
    obtain ⟨y, hy, hyN⟩ : ∃ y : Nat, x = (y : Int) ∧ y + 1 ≤ N := by
      rcases hx with z | z
      · exact ⟨c, z, by omega⟩
      · exact ⟨c + 1, z, by omega⟩
    have k3' : mI M3 a 16 = 0 → y = c + 1 := fun z => by have := (k3 z).1; omega
    clear hx k3 t1 t2 t3' t4 sgs
    subst hy
    refine L3.wd (d := d + 7) (by omega) (fun u hu iu => ⟨iu, L3.1, fun v hv v' hv' => ?_⟩)
    rw [wkE3] at hu
    by_cases z3 : mI M3 a 16 = 0
    · have ey := k3' z3
      subst ey
      rcases hnx with ⟨e1, e2⟩ | ⟨e1, e2⟩
      · rw [if_neg (fun q => e2 (hu.symm.trans q))] at hv
        subst hv
        rw [if_pos rfl] at hv'
        subst hv'
        exact s_br_end hC hb B3 (by omega) (fun _ => by omega) (by omega) ⟨by decide, by decide⟩ (Or.inl rfl)
      · rw [if_pos (hu.trans e1)] at hv
        subst hv
        rw [if_neg (by decide)] at hv'
        subst hv'
        rw [show ((c + 1 : Nat) : Int) + 1 = ((c + 2 : Nat) : Int) by omega]
        exact ih (c + 2) T3 Z3 M3 B3 z3 e2 (by omega) (by omega)
    · have v01 : v = 0 ∨ v = 1 := by split at hv <;> omega
      obtain ⟨k', hk', hkN⟩ : ∃ k' : Nat, v' = (k' : Int) ∧ k' ≤ N := by
        by_cases q : v = 0
        · rw [if_pos q] at hv'; exact ⟨y, hv', by omega⟩
        · rw [if_neg q] at hv'; exact ⟨y + 1, by omega, by omega⟩
      subst hk'
      exact s_br_end hC hb B3 hkN (fun q => absurd q z3) (by omega) (i32s (by omega) (by omega)) (Or.inr z3)
end BR2
end
section
/-! The reference: branch, to its end. -/
section BR3
variable {G : mG} {d a g R W C T2 T3 Z2 N K : Nat} {M M2 M3 : mM} {E : Nat → Nat} {tg : Int}
theorem cI.rl {co t : Int} (h : cI M a g N K R W C E tg T2 Z2 M2) (z2 : mI M2 a 16 = 0) (t1 : T2 ≤ T3) (Rl : rlR co M2 a g N T2 K T3 t M3) : cI M a g N K R W C E tg T3 Z2 M3 ∧ (mI M3 a 16 = 0 → Ge M2 g R W (C + 1) Z2 T2 M3) := by
  obtain ⟨L2, I2, ⟨g2, g6, g12⟩, ⟨z30, z32, z34⟩, D2⟩ := h
  obtain ⟨I3, G3, y30, y32, y34⟩ := rlR.ge (R := R) (W := W) (C := C + 1) (Z := Z2) L2 Rl
  have g3 : mI M3 g = mI M2 g := Rl.2.2.2.1
  exact ⟨⟨Rl.2.1, I2.trans I3, ⟨g3.trans g2, by rw [g3]; exact g6, by rw [g3]; exact g12⟩, ⟨y30.trans z30, y32.trans z32, y34.trans z34⟩, fun z => ((D2 z2).ge ((G3 z).down (Nat.le_refl _) (Nat.le_refl _) (Nat.le_succ _) (Nat.le_refl _) (Nat.le_refl _))).tu t1⟩, G3⟩
/-- a branch's chance, place and first set are put down -/
theorem br_put {b : Nat} {pl : Int} {M4 M5 M6 : mM} (h : cI M a g N K R W C E tg T2 Z2 M2) (z2 : mI M2 a 16 = 0) (hcc : Cc M2 g R W T2 E Z2 C) (hb : mI M2 (g + 25) C = (b : Int)) (hb8 : b < 8) (hZ : Z2 ≤ 16385) (hT2 : T2 ≤ 16385) (t1 : T2 ≤ T3) (ip : i32 pl) (Rl : rlR 0 M2 a g N T2 K T3 0 M3) (e4 : M4 = mUI M3 (g + 26) (8 * C + b) (T2 : Int)) (e5 : M5 = mUI M4 (g + 27) (8 * C + b) pl) (e6 : M6 = mUI M5 (g + 28) (8 * C + b) (Z2 : Int)) : bI M a g N K R W C E tg b Z2 T3 Z2 M6 ∧ (cI M a g N K R W C E tg T3 Z2 M4 ∧ cI M a g N K R W C E tg T3 Z2 M5) ∧ mI M6 a = mI M3 a := by
  obtain ⟨c3, G3⟩ := h.rl z2 t1 Rl
  obtain ⟨c4, f4, a4, G4⟩ := c3.st (i := 26) (i32s (by omega) (by omega)) (by omega) (by omega) (by decide) (by decide) e4
  obtain ⟨c5, f5, a5, G5⟩ := c4.st (i := 27) ip (by omega) (by omega) (by decide) (by decide) e5
  obtain ⟨c6, f6, a6, G6⟩ := c5.st (i := 28) (i32s (by omega) (by omega)) (by omega) (by omega) (by decide) (by decide) e6
  have aI : mI M6 a = mI M3 a := by rw [a6, a5, a4]
  have hg := h.1.2.2.2.2.2.1
  have w2 := h.1.2.1.1.1
  have hin : ∀ q, rlP a g q → q ∈ nums a := fun q hq => rlP_in hg hq
  have cell : ∀ i, i ≤ 29 → frO (13 + i) → frO (49 + i) → mI M3 (g + i) = mI M2 (g + i) := fun i i1 f1 f2 => (Rl.1.cellL w2 hin (goffx hg f1 f2) (by omega)).1
  have n25 : ∀ k, mI M6 (g + 25) k = mI M2 (g + 25) k := fun k => by rw [f6, if_neg (fun z => by omega), f5, if_neg (fun z => by omega), f4, if_neg (fun z => by omega), cell 25 (by omega) (by decide) (by decide)]
  have n24 : ∀ k, mI M6 (g + 24) k = mI M2 (g + 24) k := fun k => by rw [f6, if_neg (fun z => by omega), f5, if_neg (fun z => by omega), f4, if_neg (fun z => by omega), cell 24 (by omega) (by decide) (by decide)]
  have n29 : ∀ k, mI M6 (g + 29) k = mI M2 (g + 29) k := fun k => by rw [f6, if_neg (fun z => by omega), f5, if_neg (fun z => by omega), f4, if_neg (fun z => by omega), cell 29 (by omega) (by decide) (by decide)]
  have n26 : ∀ k, k ≠ 8 * C + b → mI M6 (g + 26) k = mI M2 (g + 26) k := fun k hk => by rw [f6, if_neg (fun z => by omega), f5, if_neg (fun z => by omega), f4, if_neg (fun z => hk z.2), cell 26 (by omega) (by decide) (by decide)]
  have n28 : ∀ k, k ≠ 8 * C + b → mI M6 (g + 28) k = mI M2 (g + 28) k := fun k hk => by rw [f6, if_neg (fun z => hk z.2), f5, if_neg (fun z => by omega), f4, if_neg (fun z => by omega), cell 28 (by omega) (by decide) (by decide)]
  have v26 : mI M6 (g + 26) (8 * C + b) = (T2 : Int) := by rw [f6, if_neg (fun z => by omega), f5, if_neg (fun z => by omega), f4, if_pos ⟨rfl, rfl⟩]
  have v28 : mI M6 (g + 28) (8 * C + b) = (Z2 : Int) := by rw [f6, if_pos ⟨rfl, rfl⟩]
  clear f4 f5 f6 cell
  refine ⟨⟨c6, v28, Nat.le_refl _, by rw [n25]; exact hb, fun z => ?_⟩, ⟨c4, c5⟩, aI⟩
  rw [aI] at z
  have G3 := G3 z
  have G36 := (G4.trans G5).trans G6
  have D2 := h.2.2.2.2 z2
  have hR := D2.1.1
  have G26 : Gn M2 g R W T2 M6 := G3.1.trans ⟨fun n hn => G36.1 n (by omega), G36.2⟩
  refine ⟨cc_part hcc hR t1 hb G26 (n24 C) (n25 C) (fun b' hb' => ⟨n26 _ (by omega), n28 _ (by omega), n29 _⟩), ?_⟩
  rw [v26]
  exact (rl_rt h.1 h.2.2.1.2.1 h.2.2.1.2.2 D2 Rl z).gn G36 hR
theorem s_MM_branch0 {p q s e : Nat} (h : cI M a g N K R W C E tg T2 Z2 M2) (z2 : mI M2 a 16 = 0) (hcc : Cc M2 g R W T2 E Z2 C) (hC : C < 60) (he5 : Eo (wk M a) 5 p q) (w33 : wk M a q = 33) (hss : Ss (wk M a) (q + 1) s) (hsN : s < N) (heN : e < N) (hT2 : T2 ≤ p) (hZ2 : Z2 ≤ p) : Ci G y_MM_branch0 (d + 9) [vr a, vi C, vi p, vi e] M2 (fun x M3 => i32 x ∧ mOk M3 ∧ brQ M a g N K R W C E tg s x M3) := by
  have L2 := h.1
  have hN := L2.2.1.1.2.2
  have hg := L2.2.2.2.2.2.1
  have w2 := L2.2.1.1.1
  have hlt := he5.pr.1
  have hqs := hss.sg.1
  have wkE := h.2.1.wk hg
  obtain ⟨b, hb⟩ : ∃ b : Nat, mI M2 (g + 25) C = (b : Int) := ⟨(mI M2 (g + 25) C).toNat, by have := hcc.2.1; omega⟩
  have hb8 : b ≤ 8 := by have := hcc.2.2.1; omega
  have b60 : ((0 : Int) ≤ (C : Int) ∧ (C : Int) < ((60 : Nat) : Int)) := by omega
  have ie : i32 (e : Int) := i32s (by omega) (by omega)
  have pN : p < N := by omega
  have qN : q < N := by omega
  have q1N : q + 1 < N := by
    rcases hss with ⟨-, y⟩ | ⟨-, f, y⟩
    · omega
    · cases f with
      | zero => exact y.elim
      | succ f =>
        obtain ⟨-, -, -, -, c, y1, -, y2⟩ := y
        have := y1.pr.1
        rcases y2 with ⟨y2, -⟩ | ⟨-, y2⟩
        · omega
        · have := y2.sg.1; omega
  refine k_MM_branch0 L2.1 (i32s (by omega) (by omega)) (i32s (by omega) (by omega)) ie ?_
  rw [show mR M2 a 10 = g from L2.2.2.2.2.1, show mR M2 g 22 = g + 25 from (w2.gp hg).2.2.1.2.2.2.2.2.2.2.1, Int.toNat_natCast, hb]
  refine ⟨w2.1.1, (w2.gp hg).1, (w2.gp hg).2.2.2.2.2.2.2.2.1.1, by rw [(w2.gp hg).2.2.2.2.2.2.2.2.1.2]; exact b60, fun _ => ?_, fun q8 => ?_⟩
  · refine (s_MM_place0 (d := d + 7) L2.1 L2.2.1 pN).mono (fun y M5 h5 => ?_)
    obtain ⟨e5, hy⟩ := h5
    subst e5
    have hy32 : i32 y := by rw [hy]; exact (L2.1 _ _).1
    refine ⟨hy32, L2.1, w2.1.1, (s_MM_stop ⟨by decide, by decide⟩ hy32 L2.1 w2).mono (fun M6 h6 => ⟨h6.1.1, ie, h6.1.1, by omega, ?_⟩)⟩
    obtain ⟨-, -, T3, Z3, c3, -, -⟩ := si_stop (c := 0) (Tm := 0) h (by decide) h6
    exact ⟨T3, Z3, c3, fun z => by rw [h6.2.1] at z; exact absurd z (by decide)⟩
  · have hb7 : b < 8 := by omega
    have e8 : 8 * (C : Int) + (b : Int) = ((8 * C + b : Nat) : Int) := by omega
    have b480 : ((0 : Int) ≤ ((8 * C + b : Nat) : Int) ∧ ((8 * C + b : Nat) : Int) < ((480 : Nat) : Int)) := by omega
    rw [e8]
    refine L2.ub (d := d + 6) (by omega) (by rw [wkE]; exact he5.pr.2.2.2.2.1) qN (by rw [wkE]; exact w33) (Or.inr (Or.inr rfl)) ⟨i32s (by omega) (by omega), L2.1, w2.1.1, ?_⟩
    rw [show mR M2 a 10 = g from L2.2.2.2.2.1, show mR M2 g 23 = g + 26 from (w2.gp hg).2.2.1.2.2.2.2.2.2.2.2.1]
    refine ⟨(w2.gp hg).1, (s_MM_rule1 (d := d + 1) (co := 0) (tr := 0) ⟨by decide, by decide⟩ (Or.inl rfl) L2 (by omega) (by rw [wkE]; exact he5.six (by omega)) qN).mono (fun x M3 q3 => ?_)⟩
    obtain ⟨ex, T3, t1, t2, Rl⟩ := q3
    subst ex
    have iT : i32 (T2 : Int) := i32s (by omega) (by omega)
    have hZ16 : Z2 ≤ 16385 := by omega
    have hT16 : T2 ≤ 16385 := by omega
    have hTs : T3 ≤ q := by omega
    have hZs : Z2 ≤ q := by omega
    have iq2 : i32 ((q : Int) + 1 + 1) := i32s (by omega) (by omega)
    have hqi : 0 ≤ (q : Int) + 1 + 1 ∧ (q : Int) + 1 + 1 ≤ N := by omega
    have ib1 : i32 ((b : Int) + 1) := i32s (by omega) (by omega)
    have b60' := b60
    have t1' := Nat.le_of_lt t1
    have iZ0 : i32 ((Z2 : Int) - Z2) := i32s (by omega) (by omega)
    obtain ⟨c3, -⟩ := h.rl z2 t1' Rl
    have L3 := c3.1
    have w3 := L3.2.1.1.1
    clear hqs hlt t2 t1 hN
    refine ⟨iT, L3.1, (w3.gp hg).2.2.2.2.2.2.2.2.2.1.1, by rw [(w3.gp hg).2.2.2.2.2.2.2.2.2.1.2]; exact b480, fun M4 e4 => ?_⟩
    rw [Int.toNat_natCast] at e4
    have P := fun (M5 M6 : mM) (pl : Int) (ip : i32 pl) e5 e6 => br_put (M5 := M5) (M6 := M6) h z2 hcc hb hb7 hZ16 hT16 t1' ip Rl e4 e5 e6
    have c4 := (P _ _ 0 ⟨by decide, by decide⟩ rfl rfl).2.1.1
    have L4 := c4.1
    have w4 := L4.2.1.1.1
    rw [show mR M4 a 10 = g from L4.2.2.2.2.1, show mR M4 g 24 = g + 27 from (w4.gp hg).2.2.1.2.2.2.2.2.2.2.2.2.1]
    refine ⟨w4.1.1, (w4.gp hg).1, (s_MM_place0 (d := d + 7) L4.1 L4.2.1 pN).mono (fun y M5 h5 => ?_)⟩
    obtain ⟨e5, hy⟩ := h5
    subst e5
    have hy32 : i32 y := by rw [hy]; exact (L4.1 _ _).1
    refine ⟨hy32, L4.1, (w4.gp hg).2.2.2.2.2.2.2.2.2.2.1.1, by rw [(w4.gp hg).2.2.2.2.2.2.2.2.2.2.1.2]; exact b480, fun M6 e6 => ?_⟩
    rw [Int.toNat_natCast] at e6
    have c6 := (P M6 _ y hy32 e6 rfl).2.1.2
    have L6 := c6.1
    have w6 := L6.2.1.1.1
    have z30 : mI M6 (g + 30) 1 = (Z2 : Int) := c6.2.2.2.1.1
    rw [show mR M6 a 10 = g from L6.2.2.2.2.1, show mR M6 g 27 = g + 30 from (w6.gp hg).2.2.1.2.2.2.2.2.2.2.2.2.2.2.2.1, show mR M6 g 25 = g + 28 from (w6.gp hg).2.2.1.2.2.2.2.2.2.2.2.2.2.1, z30]
    refine ⟨w6.1.1, (w6.gp hg).1, (w6.nu (n30 hg)).1, (w6.gp hg).2.2.2.2.2.2.2.2.2.2.2.1.1, by rw [(w6.gp hg).2.2.2.2.2.2.2.2.2.2.2.1.2]; exact b480, fun M7 e7 => ?_⟩
    rw [Int.toNat_natCast] at e7
    obtain ⟨B7, -, a7⟩ := P M6 M7 y hy32 e6 e7
    have L7 := B7.1.1
    have w7 := L7.2.1.1.1
    have wkE7 := B7.1.2.1.wk hg
    rw [show (q : Int) + 1 = ((q + 1 : Nat) : Int) by omega]
    refine L7.wd (d := d + 7) q1N (fun u hu iu => ⟨iu, L7.1, fun q10 => ⟨w7.1.1, ?_⟩, fun q10 => ?_⟩)
    · rw [wkE7] at hu
      have es : s = q + 2 := by
        rcases hss with ⟨-, y⟩ | ⟨y, -⟩
        · omega
        · exact absurd (hu.symm.trans q10) y
      have z30' : mI M7 (g + 30) 1 = (Z2 : Int) := B7.1.2.2.2.1.1
      rw [show mR M7 a 10 = g from L7.2.2.2.2.1, show mR M7 g 27 = g + 30 from (w7.gp hg).2.2.1.2.2.2.2.2.2.2.2.2.2.2.2.1, show mR M7 g 25 = g + 28 from (w7.gp hg).2.2.1.2.2.2.2.2.2.2.2.2.2.1, show mR M7 g 26 = g + 29 from (w7.gp hg).2.2.1.2.2.2.2.2.2.2.2.2.2.2.1, z30', Int.toNat_natCast, B7.2.1]
      refine ⟨(w7.gp hg).1, (w7.nu (n30 hg)).1, (w7.gp hg).2.2.2.2.2.2.2.2.2.2.2.1.1, by rw [(w7.gp hg).2.2.2.2.2.2.2.2.2.2.2.1.2]; exact b480, (w7.gp hg).2.2.2.2.2.2.2.2.2.2.2.2.1, by rw [(w7.gp hg).2.2.2.2.2.2.2.2.2.2.2.2.2]; exact b480, iZ0, fun M8 e8 => ?_⟩
      obtain ⟨c8, f8, a8, G8⟩ := B7.1.st (i := 29) iZ0 (by omega) (by omega) (by decide) (by decide) e8
      have L8 := c8.1
      have w8 := L8.2.1.1.1
      rw [show mR M8 a 10 = g from L8.2.2.2.2.1, show mR M8 g 22 = g + 25 from (w8.gp hg).2.2.1.2.2.2.2.2.2.2.1]
      refine ⟨(w8.gp hg).1, (w8.gp hg).2.2.2.2.2.2.2.2.1.1, by rw [(w8.gp hg).2.2.2.2.2.2.2.2.1.2]; exact b60', ib1, fun M9 e9 => ?_⟩
      rw [show ((q + 1 : Nat) : Int) + 1 = (q : Int) + 1 + 1 by omega]
      have key := br_end (x := (q : Int) + 1 + 1) (s := s) hC hb7 B7 hqi (fun _ => by omega) hZ16 e8 e9
      exact ⟨iq2, key⟩
    · rw [wkE7] at hu
      obtain ⟨f, se⟩ : ∃ f, Se (wk M a) f (q + 1) s := by
        rcases hss with ⟨y, -⟩ | ⟨-, y⟩
        · exact absurd (hu.trans y) q10
        · exact y
      by_cases z7 : mI M7 a 16 = 0
      · exact s_br_sets hC hb7 hsN hg f (q + 1) T3 Z2 M7 B7 z7 se (by omega) (by omega)
      · exact s_br_end hC hb7 B7 (by omega) (fun y => absurd y z7) hZ16 ⟨by decide, by decide⟩ (Or.inr z7)
end BR3
end
section
/-! The reference: commandItem. -/
section CO
variable {G : mG} {d a g R W C T Z T2 Z2 N K : Nat} {M M2 M3 : mM} {E : Nat → Nat} {tg : Int}
theorem Df.ci (h : Df M a g N T K R W C Z E tg) : cI M a g N K R W C E tg T Z M :=
  ⟨h.1, iF.refl h.1.1 h.1.2.1.1.1, ⟨rfl, h.2.1.1, h.2.1.2.1⟩, h.2.2.1, fun _ => h.2.2.2.2⟩
/-- the command is counted -/
theorem ci_end {e : Nat} (h0 : Df M a g N T K R W C Z E tg) (hC : C < 60) (h : cI M a g N K R W C E tg T2 Z2 M2) (hc : mI M2 a 16 = 0 → Cc M2 g R W T2 E Z2 C ∧ T2 ≤ e ∧ Z2 ≤ e) (e3 : M3 = mUI M2 g 18 ((C : Int) + 1)) : mOk M3 ∧ itQ M a g N e M3 := by
  obtain ⟨hL, ⟨g6, g12, g18, g17⟩, -, hK, hD⟩ := h0
  obtain ⟨L2, I2, ⟨g2, q6, q12⟩, ⟨z30, z32, z34⟩, D2⟩ := h
  have hg := L2.2.2.2.2.2.1
  have hB := L2.2.2.2.2.2.2.1
  have w2 := L2.2.1.1.1
  have a0 := goff0 hg
  obtain ⟨m1, f1, l1⟩ := mv_cell (v := (C : Int) + 1) (i32s (by omega) (by omega)) L2.1 w2 (show a ≤ g by omega) ⟨a0.1, a0.2.1, a0.2.2.1⟩ e3
  have no : ∀ q : Nat, False → q ∈ nums a := fun _ z => z.elim
  have aI1 := (m1.fld w2 no (by omega)).1
  have n18 : ∀ i, i ≠ 18 → mI M3 g i = mI M2 g i := fun i hi => by rw [f1, if_neg (fun z => hi z.2)]
  have x18 : mI M3 g 18 = (C : Int) + 1 := by rw [f1, if_pos ⟨rfl, rfl⟩]
  have L3 : Lc M3 a g N T2 K := L2.mv m1 no (fun _ z => z.elim) (by rw [n18 6 (by omega)]; omega) (by rw [n18 12 (by omega)]; omega) (by rw [n18 6 (by omega), n18 12 (by omega)]; omega) (fun r _ => by rw [f1, if_neg (fun z => by omega)])
  have s : ∀ {q}, q ∈ nums a → sameN M2 M3 q := fun hq => m1.lst hq (fun z => z)
  refine ⟨m1.1, I2.trans (iF.mk w2 m1 (fun _ z => z.elim) (fun x z => Or.inr (Or.inl (by omega))) (fun i _ _ _ => by rw [aI1])), ?_⟩
  by_cases z : mI M3 a 16 = 0
  · have z2 : mI M2 a 16 = 0 := by rw [← aI1]; exact z
    obtain ⟨c1, c2, c3⟩ := hc z2
    have G3 : Ge M2 g R W (C + 1) Z2 T2 M3 := ge_mv w2 hg m1 no (fun z => z) (fun z => z) (fun i i1 i2 (z : g + i = g) => by omega) (fun n _ => ⟨(s (tL_in (q := g + 1) hg (by omega))).2.1 n, (s (tL_in (q := g + 7) hg (by omega))).2.1 n, (s (tL_in (q := g + 9) hg (by omega))).2.1 n, (s (tL_in (q := g + 11) hg (by omega))).2.1 n⟩)
    exact Or.inr ⟨z, T2, K, R, W, C + 1, Z2, E, tg, ⟨L3, ⟨by rw [n18 6 (by omega)]; exact q6, by rw [n18 12 (by omega)]; exact q12, by rw [x18]; omega, by rw [n18 17 (by omega), g2]; exact g17⟩, ⟨by rw [(s (n30 hg)).1]; exact z30, by rw [(s (n32 hg)).1]; exact z32, by rw [(s (n34 hg)).1]; exact z34⟩, hK, ((D2 z2).cu hC c1).ge G3⟩, c2, c3⟩
  · exact Or.inl z
theorem s_ci_end {e : Nat} {p : Int} (h0 : Df M a g N T K R W C Z E tg) (hC : C < 60) (h : cI M a g N K R W C E tg T2 Z2 M2) (heN : e < N) (hc : mI M2 a 16 = 0 → Cc M2 g R W T2 E Z2 C ∧ T2 ≤ e + 1 ∧ Z2 ≤ e + 1) (ip : i32 p) (hp : ¬ (mI M2 a 16 = 0) ∨ (e : Int) ≤ p) : h_MM_commandItem_116 G (d + 9) a e C p M2 (fun M' => mOk M' ∧ itQ M a g N (e + 1) M') := by
  have L2 := h.1
  have hN := L2.2.1.1.2.2
  have hg := L2.2.2.2.2.2.1
  have w2 := L2.2.1.1.1
  refine k_MM_commandItem_116 L2.1 (i32s (by omega) (by omega)) (i32s (by omega) (by omega)) ip ⟨w2.1.1, fun _ => ?_, fun q => absurd hp q⟩
  rw [show mR M2 a 10 = g from L2.2.2.2.2.1]
  exact ⟨(w2.gp hg).1, i32s (by omega) (by omega), fun M3 e3 => ci_end h0 hC h hc e3⟩
theorem s_ci_run {e : Nat} (h0 : Df M a g N T K R W C Z E tg) (hC : C < 60) (heN : e < N) (hg : g = a + 13 ∨ g = a + 49) : ∀ (f p T2 Z2 : Nat) (M2 : mM), cI M a g N K R W C E tg T2 Z2 M2 → mI M2 a 16 = 0 → Cc M2 g R W T2 E Z2 C → Br (wk M a) f p e → T2 ≤ p → Z2 ≤ p → h_MM_commandItem_116 G (d + 9) a e C p M2 (fun M' => mOk M' ∧ itQ M a g N (e + 1) M') := by
  intro f
  induction f with
  | zero => intro p T2 Z2 M2 _ _ _ hb; exact hb.elim
  | succ f ih =>
    intro p T2 Z2 M2 h z2 hcc hbr hT hZ
    have L2 := h.1
    have hN := L2.2.1.1.2.2
    have w2 := L2.2.1.1.1
    obtain ⟨q, s, h1, h2, h3, h4⟩ := hbr
    have p1 := h1.pr.1
    have p3 := h3.sg.1
    have hse : s ≤ e := by
      rcases h4 with ⟨y, -⟩ | ⟨-, y⟩
      · omega
      · have := y.sg.1; omega
    refine k_MM_commandItem_116 L2.1 (i32s (by omega) (by omega)) (i32s (by omega) (by omega)) (i32s (by omega) (by omega)) ⟨w2.1.1, fun q => ?_, fun _ => ?_⟩
    · rcases q with q | q
      · exact absurd z2 q
      · omega
    refine (s_MM_branch0 (d := d) h z2 hcc hC h1 h2 h3 (by omega) heN hT hZ).mono (fun x M3 t3 => ?_)
    obtain ⟨ix, o3, hx, T3, Z3, c3, k3⟩ := t3
    refine ⟨ix, o3, ?_⟩
    by_cases z3 : mI M3 a 16 = 0
    · obtain ⟨ex, t1, t2, cc⟩ := k3 z3
      subst ex
      rw [show (s : Int) + 1 = ((s + 1 : Nat) : Int) by omega]
      rcases h4 with ⟨y, -⟩ | ⟨-, y⟩
      · exact s_ci_end h0 hC c3 heN (fun _ => ⟨cc, by omega, by omega⟩) (i32s (by omega) (by omega)) (Or.inr (by omega))
      · exact ih (s + 1) T3 Z3 M3 c3 z3 cc y (by omega) (by omega)
    · exact s_ci_end h0 hC c3 heN (fun y => absurd y z3) (i32s (by omega) (by omega)) (Or.inl z3)
end CO
end
section
/-! The reference: commandItem, to its end. -/
section CO2
variable {G : mG} {d a g R W C T Z N K : Nat} {M : mM} {E : Nat → Nat} {tg : Int}
theorem s_MM_commandItem {k e j f : Nat} (h : Df M a g N T K R W C Z E tg) (h16 : mI M a 16 = 0) (he6 : Eo (wk M a) 6 (k + 1) j) (w17 : wk M a j = 17) (hbr : Br (wk M a) f (j + 1) e) (heN : e < N) (hT : T ≤ k) (hZ : Z ≤ k) : Cv G y_MM_commandItem (d + 10) [vr a, vi k, vi e] M (fun M' => mOk M' ∧ itQ M a g N (e + 1) M') := by
  have hL := h.1
  have hN := hL.2.1.1.2.2
  have hg := hL.2.2.2.2.2.1
  have w := hL.2.1.1.1
  have g18 := h.2.1.2.2.1
  have hBd := h.2.2.2.2.1
  have hlt := he6.pr.1
  have hbs := hbr.sg.1
  have ie : i32 (e : Int) := i32s (by omega) (by omega)
  have ik : i32 (k : Int) := i32s (by omega) (by omega)
  have kN : k < N := by omega
  have jN : j < N := by omega
  refine k_MM_commandItem hL.1 ik ie ⟨w.1.1, ?_⟩
  rw [show mR M a 10 = g from hL.2.2.2.2.1, g18, show (k : Int) + 1 = ((k + 1 : Nat) : Int) by omega]
  refine ⟨(w.gp hg).1, fun q => s_st_it (d := d + 8) (c := 5) (by decide) ⟨by decide, by decide⟩ hL kN, fun q => ?_⟩
  have hC : C < 60 := by omega
  have b60 : ((0 : Int) ≤ (C : Int) ∧ (C : Int) < ((60 : Nat) : Int)) := by omega
  have hT3 : T + (j - (k + 1)) ≤ 30000 := by omega
  refine hL.ub (d := d + 7) (by omega) he6.pr.2.2.2.2.1 jN w17 (Or.inr (Or.inl rfl)) ⟨i32s (by omega) (by omega), hL.1, w.1.1, ?_⟩
  rw [show mR M a 10 = g from hL.2.2.2.2.1, show mR M g 19 = g + 22 from (w.gp hg).2.2.1.2.2.2.2.1]
  refine ⟨(w.gp hg).1, hL.wd (d := d + 8) kN (fun x hx ix => ⟨ix, hL.1, fun v hv => ⟨(w.gp hg).2.2.2.2.2.1.1, by rw [(w.gp hg).2.2.2.2.2.1.2]; exact b60, fun M2 e2 => ?_⟩⟩)⟩
  rw [Int.toNat_natCast] at e2 ⊢
  have iv : i32 v := by rw [hv]; split <;> exact ⟨by decide, by decide⟩
  obtain ⟨c2, f2, a2, G2⟩ := h.ci.st (i := 22) iv (by omega) (by omega) (by decide) (by decide) e2
  have L2 := c2.1
  have w2 := L2.2.1.1.1
  rw [show mR M2 a 10 = g from L2.2.2.2.2.1, show mR M2 g 20 = g + 23 from (w2.gp hg).2.2.1.2.2.2.2.2.1]
  refine ⟨w2.1.1, (w2.gp hg).1, (s_MM_place0 (d := d + 8) L2.1 L2.2.1 kN).mono (fun y M3 h3 => ?_)⟩
  obtain ⟨e3, hy⟩ := h3
  subst e3
  have hy32 : i32 y := by rw [hy]; exact (L2.1 _ _).1
  refine ⟨hy32, L2.1, (w2.gp hg).2.2.2.2.2.2.1.1, by rw [(w2.gp hg).2.2.2.2.2.2.1.2]; exact b60, fun M4 e4 => ?_⟩
  obtain ⟨c4, f4, a4, G4⟩ := c2.st (i := 23) hy32 (by omega) (by omega) (by decide) (by decide) e4
  have L4 := c4.1
  have w4 := L4.2.1.1.1
  have wkE := c4.2.1.wk hg
  have z4 : mI M4 a 16 = 0 := by rw [a4, a2]; exact h16
  rw [show mR M4 a 10 = g from L4.2.2.2.2.1, show mR M4 g 21 = g + 24 from (w4.gp hg).2.2.1.2.2.2.2.2.2.1]
  refine ⟨w4.1.1, (w4.gp hg).1, (s_MM_rule1 (d := d + 2) (co := 0) (tr := 1) ⟨by decide, by decide⟩ (Or.inr rfl) L4 hT3 (by rw [wkE]; exact he6) jN).mono (fun x5 M5 q5 => ?_)⟩
  obtain ⟨ex, T5, t1, t2, Rl⟩ := q5
  subst ex
  obtain ⟨c5, G5⟩ := c4.rl z4 (Nat.le_of_lt t1) Rl
  have L5 := c5.1
  have w5 := L5.2.1.1.1
  have iT : i32 (T : Int) := i32s (by omega) (by omega)
  refine ⟨iT, L5.1, (w5.gp hg).2.2.2.2.2.2.2.1.1, by rw [(w5.gp hg).2.2.2.2.2.2.2.1.2]; exact b60, fun M6 e6 => ?_⟩
  obtain ⟨c6, f6, a6, G6⟩ := c5.st (i := 24) iT (by omega) (by omega) (by decide) (by decide) e6
  have L6 := c6.1
  have w6 := L6.2.1.1.1
  rw [show mR M6 a 10 = g from L6.2.2.2.2.1, show mR M6 g 22 = g + 25 from (w6.gp hg).2.2.1.2.2.2.2.2.2.2.1]
  refine ⟨w6.1.1, (w6.gp hg).1, (w6.gp hg).2.2.2.2.2.2.2.2.1.1, by rw [(w6.gp hg).2.2.2.2.2.2.2.2.1.2]; exact b60, fun M7 e7 => ?_⟩
  obtain ⟨c7, f7, a7, G7⟩ := c6.st (i := 25) ⟨by decide, by decide⟩ (by omega) (by omega) (by decide) (by decide) e7
  have a75 : mI M7 a 16 = mI M5 a 16 := by rw [a7, a6]
  rw [show (j : Int) + 1 = ((j + 1 : Nat) : Int) by omega]
  by_cases z7 : mI M7 a 16 = 0
  · have z5 : mI M5 a 16 = 0 := by rw [← a75]; exact z7
    have r24 : mI M7 (g + 24) C = (T : Int) := by rw [f7, if_neg (fun z => by omega), f6, if_pos ⟨rfl, rfl⟩]
    have r25 : mI M7 (g + 25) C = 0 := by rw [f7, if_pos ⟨rfl, rfl⟩]
    have D4 := c4.2.2.2.2 z4
    have rt := ((rl_rt L4 c4.2.2.1.2.1 c4.2.2.1.2.2 D4 Rl z5).gn G6 D4.1.1).gn G7 D4.1.1
    refine s_ci_run h hC heN hg f (j + 1) T5 Z M7 c7 z7 ?_ hbr (by omega) (by omega)
    unfold Cc
    rw [r24, r25]
    exact ⟨rt, by decide, by decide, fun b hb => absurd hb (by omega)⟩
  · exact s_ci_end h hC c7 heN (fun y => absurd y z7) (i32s (by omega) (by omega)) (Or.inl z7)
end CO2
end
