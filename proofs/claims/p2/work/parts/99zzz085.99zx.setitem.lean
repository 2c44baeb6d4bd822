section
/-! The reference: a set. -/
section SI
variable {G : mG} {d a g R W C Z T T2 T3 Z2 N K : Nat} {M M' M2 M3 : mM} {E : Eg9} {tg : Int} {P S : Nat → Prop}
theorem ge_mvl (w : Wd M a) (hg : g = a + 13 ∨ g = a + 49) (m : Mv P S M a M') (hin : ∀ q, P q → q ∈ nums a) (h30 : ∀ i : Nat, i < Z → nt M' (g + 30) i = nt M (g + 30) i) (h34 : ∀ i : Nat, i < Z → nt M' (g + 34) i = nt M (g + 34) i) (h32 : ∀ i : Nat, i < Z → nt M' (g + 32) i = nt M (g + 32) i) (hS : ∀ i, 13 ≤ i → i ≤ 29 → ¬ S (g + i)) (hn : ∀ n, n < T → so M' g n = so M g n ∧ va M' g n = va M g n ∧ fp M' g n = fp M g n ∧ np M' g n = np M g n ∧ pm M' g n = pm M g n) : Ge M g R W C Z T M' := by
  have c22 := m.cellL w hin (goffx (i := 22) hg (by decide) (by decide)) (hS 22 (by omega) (by omega))
  have c23 := m.cellL w hin (goffx (i := 23) hg (by decide) (by decide)) (hS 23 (by omega) (by omega))
  have c27 := m.cellL w hin (goffx (i := 27) hg (by decide) (by decide)) (hS 27 (by omega) (by omega))
  have c13 := m.cellL w hin (goffx (i := 13) hg (by decide) (by decide)) (hS 13 (by omega) (by omega))
  have c14 := m.cellL w hin (goffx (i := 14) hg (by decide) (by decide)) (hS 14 (by omega) (by omega))
  have c15 := m.cellL w hin (goffx (i := 15) hg (by decide) (by decide)) (hS 15 (by omega) (by omega))
  have c16 := m.cellL w hin (goffx (i := 16) hg (by decide) (by decide)) (hS 16 (by omega) (by omega))
  have c17 := m.cellL w hin (goffx (i := 17) hg (by decide) (by decide)) (hS 17 (by omega) (by omega))
  have c18 := m.cellL w hin (goffx (i := 18) hg (by decide) (by decide)) (hS 18 (by omega) (by omega))
  have c19 := m.cellL w hin (goffx (i := 19) hg (by decide) (by decide)) (hS 19 (by omega) (by omega))
  have c20 := m.cellL w hin (goffx (i := 20) hg (by decide) (by decide)) (hS 20 (by omega) (by omega))
  have c21 := m.cellL w hin (goffx (i := 21) hg (by decide) (by decide)) (hS 21 (by omega) (by omega))
  have c24 := m.cellL w hin (goffx (i := 24) hg (by decide) (by decide)) (hS 24 (by omega) (by omega))
  have c25 := m.cellL w hin (goffx (i := 25) hg (by decide) (by decide)) (hS 25 (by omega) (by omega))
  have c26 := m.cellL w hin (goffx (i := 26) hg (by decide) (by decide)) (hS 26 (by omega) (by omega))
  have c28 := m.cellL w hin (goffx (i := 28) hg (by decide) (by decide)) (hS 28 (by omega) (by omega))
  have c29 := m.cellL w hin (goffx (i := 29) hg (by decide) (by decide)) (hS 29 (by omega) (by omega))
  exact ⟨⟨hn, fun r _ => ⟨by rw [c13.1], by rw [c14.1]⟩, fun v _ => by rw [c18.1]⟩, fun r _ => ⟨by rw [c15.1], by rw [c16.2], by rw [c17.2]⟩, fun v _ => ⟨by rw [c19.1], by rw [c20.1], by rw [c21.1]⟩, fun c _ => ⟨by rw [c24.1], by rw [c25.1], fun b _ => ⟨by rw [c26.1], by rw [c28.1], by rw [c29.1], by rw [c27.1], by rw [c22.1], by rw [c23.1]⟩⟩, fun i hi => ⟨h30 i hi, h34 i hi, h32 i hi⟩⟩
/-- a set list grows -/
theorem gadd {p : Nat} {v : Int} (h : Lc M2 a g N T2 K) (hp : p = g + 30 ∨ p = g + 32 ∨ p = g + 34) (hZ : (Z : Int) ≤ ln M2 p) (t : adQ M2 p v M3) : Lc M3 a g N T2 K ∧ Mv (fun x => x = p) (fun _ => False) M2 a M3 ∧ mI M3 g = mI M2 g ∧ mI M3 a = mI M2 a ∧ Ge M2 g R W C Z T2 M3 := by
  have hg := h.2.2.2.2.2.1
  have hB := h.2.2.2.2.2.2.1
  have w := h.2.1.1.1
  have hpn : p ∈ nums a := by
    rcases hp with z | z | z <;> rw [z]
    · exact n30 hg
    · exact n32 hg
    · exact n34 hg
  have m := mv_add w hpn t
  obtain ⟨-, -, -, -, t5, -⟩ := t
  have hin : ∀ q, q = p → q ∈ nums a := fun q hq => by rw [hq]; exact hpn
  have gI := m.gI w hg hin (fun z => z)
  have o13 := goffx (i := 13) hg (by decide) (by decide)
  have c13 := m.cell w hin o13.1 o13.2.1 o13.2.2 (fun z => z)
  have nn : ∀ n, so M3 g n = so M2 g n ∧ va M3 g n = va M2 g n ∧ fp M3 g n = fp M2 g n ∧ np M3 g n = np M2 g n ∧ pm M3 g n = pm M2 g n := fun n => ⟨(m.lst (tL_in (q := g + 1) hg (tLk1 g)) (by omega)).2.1 n, (m.lst (tL_in (q := g + 7) hg (tLk7 g)) (by omega)).2.1 n, (m.lst (tL_in (q := g + 9) hg (tLk9 g)) (by omega)).2.1 n, (m.lst (tL_in (q := g + 11) hg (tLk11 g)) (by omega)).2.1 n, (m.lst (tL_in (q := g + 3) hg (tLk3 g)) (by omega)).2.1 n⟩
  refine ⟨h.mv m hin (fun q hq => by omega) (by rw [gI]; omega) (by rw [gI]; omega) (by rw [gI]; omega) (fun r _ => by rw [c13]), m, gI, (m.fld w hin (fun z => z)).1, ge_mvl w hg m hin (fun i hi => ?_) (fun i hi => ?_) (fun i hi => ?_) (fun _ _ _ z => z) (fun n _ => nn n)⟩
  · by_cases z : p = g + 30
    · rw [← z]; exact t5 i (by omega)
    · exact (m.lst (n30 hg) (fun y => z y.symm)).2.1 i
  · by_cases z : p = g + 34
    · rw [← z]; exact t5 i (by omega)
    · exact (m.lst (n34 hg) (fun y => z y.symm)).2.1 i
  · by_cases z : p = g + 32
    · rw [← z]; exact t5 i (by omega)
    · exact (m.lst (n32 hg) (fun y => z y.symm)).2.1 i
/-- the root of a rule that has been read -/
theorem rl_rt {t : Int} (hL : Lc M2 a g N T2 K) (g6 : mI M2 g 6 = R) (g12 : mI M2 g 12 = W) (hD : Dg M2 g R W C Z T2 E tg) (h : rlR 0 M2 a g N T2 K T3 t M3) (z : mI M3 a 16 = 0) (hp : ∀ n, n < T2 → pm M3 g n = pm M2 g n) : Rt M3 g R W T3 E.1 T2 t := by
  have hR := hD.1.1
  have G3 := (rlR.ge (R := R) (W := W) (C := 0) (Z := 0) hL h).2.1 z hp
  rcases h.2.2.2.2.2 with y | ⟨-, ⟨f, ty⟩, -⟩
  · exact absurd z y
  · refine ⟨T2, R, f, T3, rfl, Nat.le_refl _, fun r hr q => ?_, ty.mono (fun v hv => ?_), Nat.le_refl _⟩
    · rw [(G3.1.2.1 r hr).1] at q
      obtain ⟨n, f', -, q2, -⟩ := hD.2.2.1 r hr q
      exact q2
    · unfold nmr at hv
      rw [g6, g12] at hv
      rcases hv with ⟨h1, h2, h3, h4⟩ | ⟨-, h1, h2, h3⟩
      · have gt := G3.1.tr (r := v.toNat) hR (by omega)
        rw [show ((v.toNat : Nat) : Int) = v by omega] at gt
        exact ⟨Or.inl ⟨h1, h2, Or.inl trivial⟩, gt⟩
      · exact ⟨Or.inr ⟨trivial, h1, h2⟩, G3.1.tv h1 h2⟩
/-- inside a command item -/
def cI (M : mM) (a g N K R W C : Nat) (E : Eg9) (tg : Int) (T2 Z2 : Nat) (M2 : mM) : Prop := Lc M2 a g N T2 K ∧ iF M a g M2 ∧ (mI M2 g = mI M g ∧ mI M2 g 6 = R ∧ mI M2 g 12 = W) ∧ (ln M2 (g + 30) = Z2 ∧ ln M2 (g + 32) = Z2 ∧ ln M2 (g + 34) = Z2) ∧ (mI M2 a 16 = 0 → Dg M2 g R W C Z2 T2 E tg)
/-- a set has been read -/
def siQ (M : mM) (a g N K R W C : Nat) (E : Eg9) (tg : Int) (c T2 Z2 Tm : Nat) (M2 : mM) (x : Int) (M3 : mM) : Prop := (x = (c : Int) ∨ x = (c + 1 : Nat)) ∧ Mv (itP a g) (fun y => y = a) M2 a M3 ∧ ∃ T3 Z3 : Nat, cI M a g N K R W C E tg T3 Z3 M3 ∧ (T2 ≤ T3 ∧ T3 ≤ T2 + Tm ∧ Z2 ≤ Z3 ∧ Z3 ≤ Z2 + 1) ∧ (mI M3 a 16 = 0 → x = (c + 1 : Nat) ∧ Ge M2 g R W (C + 1) Z2 T2 M3)
theorem si_stop {c Tm : Nat} {cc p : Int} (h : cI M a g N K R W C E tg T2 Z2 M2) (hc : cc ≠ 0) (q : Mv (fun _ => False) (fun x => x = a) M2 a M3 ∧ mI M3 a 16 = cc ∧ mI M3 a 17 = p ∧ ∀ i, i ≠ 16 → i ≠ 17 → mI M3 a i = mI M2 a i) : siQ M a g N K R W C E tg c T2 Z2 Tm M2 c M3 := by
  obtain ⟨L2, I2, g2, z2, D2⟩ := h
  obtain ⟨L3, g3, G3, z3, c18⟩ := L2.sp (R := R) (W := W) (C := C) (Z := Z2) q.1 (fun _ z => z) (fun _ z => z)
  have w2 := L2.2.1.1.1
  have z16 : mI M3 a 16 ≠ 0 := by rw [q.2.1]; exact hc
  refine ⟨Or.inl rfl, q.1.mono (fun _ z => z.elim) (fun x z => z) (itP_lt w2), T2, Z2, ⟨L3, I2.trans (iF.mk w2 q.1 (fun _ z => z.elim) (fun x z => Or.inl z) (fun i i1 i2 _ => q.2.2.2 i i1 i2)), ⟨g3.trans g2.1, by rw [g3]; exact g2.2.1, by rw [g3]; exact g2.2.2⟩, ⟨by rw [z3.1]; exact z2.1, by rw [z3.2.1]; exact z2.2.1, by rw [z3.2.2]; exact z2.2.2⟩, fun z => absurd z z16⟩, ⟨Nat.le_refl _, by omega, Nat.le_refl _, by omega⟩, fun z => absurd z z16⟩
end SI
end
section
/-! The reference: setItem. -/
section SI2
variable {G : mG} {d a g R W C T2 Z2 N K : Nat} {M M2 M3 : mM} {E : Eg9} {tg : Int}
/-- three numbers of a set are put down -/
theorem si_add {c v T3 : Nat} {pl : Int} {Tm : Nat} {M4 M5 M6 : mM} (h : cI M a g N K R W C E tg T2 Z2 M2) (z2 : mI M2 a 16 = 0) (hv : v < W) (t1 : T2 < T3) (t2 : T3 ≤ T2 + Tm) (Rl : rlR 0 M2 a g N T2 K T3 (mI M2 (g + 18) v) M3) (hp : mI M3 a 16 = 0 → ∀ n, n < T2 → pm M3 g n = pm M2 g n) (a4 : adQ M3 (g + 30) v M4) (a5 : adQ M4 (g + 32) pl M5) (a6 : adQ M5 (g + 34) (T2 : Int) M6) : siQ M a g N K R W C E tg c T2 Z2 Tm M2 (c + 1 : Nat) M6 := by
  obtain ⟨L2, I2, ⟨g2, g6, g12⟩, ⟨z30, z32, z34⟩, D2⟩ := h
  have D2 := D2 z2
  have hg := L2.2.2.2.2.2.1
  have w2 := L2.2.1.1.1
  have hR := D2.1.1
  obtain ⟨I3, G3, y30, y32, y34⟩ := rlR.ge (R := R) (W := W) (C := C + 1) (Z := Z2) L2 Rl
  have L3 := Rl.2.1
  have g3 : mI M3 g = mI M2 g := Rl.2.2.2.1
  have m3 : Mv (itP a g) (fun y => y = a) M2 a M3 := Rl.1.mono (fun q hq => rlP_it hg hq) (fun x hx => hx) (itP_lt w2)
  have w3 := L3.2.1.1.1
  have lt3 : ∀ {p : Nat} {Mx : mM}, p = g + 30 ∨ p = g + 32 ∨ p = g + 34 → Wd Mx a → ∀ q, q = p → itP a g q := fun hp _ q hq => by
    refine ⟨?_, by omega⟩
    rw [hq]
    rcases hp with z | z | z <;> rw [z]
    · exact n30 hg
    · exact n32 hg
    · exact n34 hg
  obtain ⟨L4, m4, g4, i4, G4⟩ := gadd (R := R) (W := W) (C := C + 1) (Z := Z2) L3 (Or.inl rfl) (by rw [y30, z30]; omega) a4
  obtain ⟨L5, m5, g5, i5, G5⟩ := gadd (R := R) (W := W) (C := C + 1) (Z := Z2) L4 (Or.inr (Or.inl rfl)) (by rw [(m4.lst (n32 hg) (by omega)).1, y32, z32]; omega) a5
  have e34 : ln M5 (g + 34) = (Z2 : Int) := by rw [(m5.lst (n34 hg) (by omega)).1, (m4.lst (n34 hg) (by omega)).1, y34, z34]
  obtain ⟨L6, m6, g6', i6, G6⟩ := gadd (R := R) (W := W) (C := C + 1) (Z := Z2) L5 (Or.inr (Or.inr rfl)) (by rw [e34]; omega) a6
  have m4' : Mv (itP a g) (fun y => y = a) M3 a M4 := m4.mono (lt3 (Or.inl rfl) w3) (fun _ z => z.elim) (itP_lt w3)
  have m5' : Mv (itP a g) (fun y => y = a) M4 a M5 := m5.mono (lt3 (Or.inr (Or.inl rfl)) w3) (fun _ z => z.elim) (itP_lt m4.2.1)
  have m6' : Mv (itP a g) (fun y => y = a) M5 a M6 := m6.mono (lt3 (Or.inr (Or.inr rfl)) w3) (fun _ z => z.elim) (itP_lt m5.2.1)
  have mm := ((m3.trans m4').trans m5').trans m6'
  have iA : mI M6 a = mI M3 a := by rw [i6, i5, i4]
  have gI : mI M6 g = mI M2 g := by rw [g6', g5, g4, g3]
  have l30 : ln M6 (g + 30) = (Z2 + 1 : Nat) := by rw [(m6.lst (n30 hg) (by omega)).1, (m5.lst (n30 hg) (by omega)).1, a4.2.2.2.1, y30, z30]; omega
  have l32 : ln M6 (g + 32) = (Z2 + 1 : Nat) := by rw [(m6.lst (n32 hg) (by omega)).1, a5.2.2.2.1, (m4.lst (n32 hg) (by omega)).1, y32, z32]; omega
  have l34 : ln M6 (g + 34) = (Z2 + 1 : Nat) := by rw [a6.2.2.2.1, e34]; omega
  have t30 : nt M6 (g + 30) Z2 = (v : Int) := by
    rw [(m6.lst (n30 hg) (by omega)).2.1, (m5.lst (n30 hg) (by omega)).2.1]
    have := a4.2.2.2.2.2.1
    rw [y30, z30, Int.toNat_natCast] at this
    exact this
  have t34 : nt M6 (g + 34) Z2 = (T2 : Int) := by
    have := a6.2.2.2.2.2.1
    rw [e34, Int.toNat_natCast] at this
    exact this
  have If : iF M2 a g M6 := ⟨mm.mono (fun q hq => hq) (fun x hx => Or.inl hx) (itP_lt w2), fun i i1 i2 i3 => by rw [iA]; exact I3.2 i i1 i2 i3⟩
  have G36 := (G4.trans G5).trans G6
  have fin : mI M6 a 16 = 0 → Ge M2 g R W (C + 1) Z2 T2 M6 ∧ Dg M6 g R W C (Z2 + 1) T3 E tg := fun z => by
    rw [iA] at z
    have G3 := G3 z (hp z)
    have G26 := G3.trans (G36.down (Nat.le_refl _) (Nat.le_refl _) (Nat.le_refl _) (Nat.le_refl _) (Nat.le_of_lt t1))
    have D6 := ((D2.ge (G26.down (Nat.le_refl _) (Nat.le_refl _) (Nat.le_succ _) (Nat.le_refl _) (Nat.le_refl _))).tu (Nat.le_of_lt t1))
    have rt := (rl_rt L2 g6 g12 D2 Rl z (hp z)).gn G36.1 hR
    refine ⟨G26, D6.zu ?_⟩
    rw [t30, t34]
    refine ⟨by omega, by omega, ?_⟩
    rw [G26.1.tv (by omega) (by omega)]
    have b01 := (D2.2.2.2.1 v hv).2.2.2.2.2
    have e1 : tn M2 g (100 + (v : Int)) = mI M2 (g + 18) v := by
      unfold tn
      rw [if_pos (show (100 : Int) ≤ 100 + (v : Int) by omega), show (100 + (v : Int) - 100).toNat = v by omega]
      rcases b01 with y | y <;> rw [y] <;> rfl
    rw [e1]
    exact rt
  exact ⟨Or.inr rfl, mm, T3, Z2 + 1, ⟨L6, I2.trans If, ⟨gI.trans g2, by rw [gI]; exact g6, by rw [gI]; exact g12⟩, ⟨l30, l32, l34⟩, fun z => (fin z).2⟩, ⟨Nat.le_of_lt t1, t2, by omega, by omega⟩, fun z => ⟨rfl, (fin z).1⟩⟩
end SI2
end
section
/-! The reference: setItem, to its end. -/
section SI3
variable {G : mG} {d a g R W C T2 Z2 N K : Nat} {M M2 : mM} {E : Eg9} {tg : Int}
theorem Lc.rd {p j : Nat} {Q : Int → mM → Prop} {T : Nat} (h : Lc M a g N T K) (hp : p ∈ nums a) (hk : (j : Int) < ln M p) (hQ : ∀ z, z = nt M p j → i32 z → Q z M) : Ci G y_MN_at d [vr p, vi j] M Q := by
  refine (s_MN_at h.1 (h.2.1.1.1.nu hp) hk).mono (fun z M1 e1 => ?_)
  obtain ⟨e1, hz⟩ := e1
  subst e1
  exact hQ z hz (by rw [hz]; exact (h.1 _ _).1)
theorem Lc.co {k e T : Nat} {Q : Int → mM → Prop} (h : Lc M a g N T K) (hk : k < e) (he : e < N) (h1 : ∀ t, 1 ≤ t → t ≤ e - k → 1 ≤ dp (wk M a) k t) (h2 : dp (wk M a) k (e + 1 - k) = 0) (hQ : Q e M) : Ci G y_MM_closeOf (d + 2) [vr a, vi k] M Q := by
  refine (s_MM_closeOf (d := d) h.1 h.2.1.1 hk he (fun t t1 t2 => by have := h1 t t1 t2; omega) (by rw [show e - k + 1 = e + 1 - k by omega, h2]; omega)).mono (fun x M1 e1 => ?_)
  obtain ⟨e1, hx⟩ := e1
  subst e1
  rw [hx]
  exact hQ
end SI3
end
section
/-! The reference: a branch, its sets and its end. -/
section BR
variable {G : mG} {d a g R W C T2 Z2 N K : Nat} {M M2 M3 : mM} {E : Eg9} {tg : Int}
/-- a number of the command that is being read -/
theorem cI.st {i j : Nat} {v : Int} (h : cI M a g N K R W C E tg T2 Z2 M2) (hv : i32 v) (hi : 22 ≤ i ∧ i ≤ 29) (hj : (i ≤ 25 → C ≤ j) ∧ (26 ≤ i → 8 * C ≤ j)) (f1 : frO (13 + i)) (f2 : frO (49 + i)) (e : M3 = mUI M2 (g + i) j v) : cI M a g N K R W C E tg T2 Z2 M3 ∧ (∀ y k, mI M3 y k = if y = g + i ∧ k = j then v else mI M2 y k) ∧ mI M3 a = mI M2 a ∧ Gn M2 g R W T2 M3 := by
  obtain ⟨L2, I2, g2, z2, D2⟩ := h
  obtain ⟨L3, I3, ⟨g3, a3⟩, m3, f3, l3⟩ := gsti L2 hv (by omega) f1 f2 (fun z => by omega) e
  have hg := L2.2.2.2.2.2.1
  have G3 := ge_st (R := R) (W := W) (C := C) (Z := Z2) (T := T2) hg m3 f3 l3 (by omega) (by omega) (fun _ z => hj.1 z) (fun z => hj.2 z)
  exact ⟨⟨L3, I2.trans I3, ⟨g3.trans g2.1, by rw [g3]; exact g2.2.1, by rw [g3]; exact g2.2.2⟩, ⟨by rw [(m3.lst (n30 hg) (fun z => z)).1]; exact z2.1, by rw [(m3.lst (n32 hg) (fun z => z)).1]; exact z2.2.1, by rw [(m3.lst (n34 hg) (fun z => z)).1]; exact z2.2.2⟩, fun z => (D2 (by rw [← a3]; exact z)).ge G3⟩, f3, a3, G3.1⟩
/-- inside a branch: its place is x -/
def bI (M : mM) (a g N K R W C : Nat) (E : Eg9) (tg : Int) (b Z0 T2 Z2 : Nat) (M2 : mM) : Prop := cI M a g N K R W C E tg T2 Z2 M2 ∧ mI M2 (g + 28) (8 * C + b) = (Z0 : Int) ∧ Z0 ≤ Z2 ∧ mI M2 (g + 25) C = (b : Int) ∧ (mI M2 a 16 = 0 → Cc M2 g R W T2 E.1 Z2 C ∧ Rt M2 g R W T2 E.1 (mI M2 (g + 26) (8 * C + b)) 0)
/-- a branch has been read -/
def brQ (M : mM) (a g N K R W C : Nat) (E : Eg9) (tg : Int) (s : Nat) (x : Int) (M3 : mM) : Prop := (0 ≤ x ∧ x ≤ N) ∧ ∃ T3 Z3 : Nat, cI M a g N K R W C E tg T3 Z3 M3 ∧ (mI M3 a 16 = 0 → x = (s : Int) ∧ T3 ≤ s ∧ Z3 ≤ s ∧ Cc M3 g R W T3 E.1 Z3 C)
/-- the branch's end -/
theorem br_end {b Z0 s : Nat} {x : Int} {M4 : mM} (hC : C < 60) (hb : b < 8) (h : bI M a g N K R W C E tg b Z0 T2 Z2 M2) (hx : 0 ≤ x ∧ x ≤ N) (hs : mI M2 a 16 = 0 → x = (s : Int) ∧ T2 ≤ s ∧ Z2 ≤ s) (hZ : Z2 ≤ 16385) (e3 : M3 = mUI M2 (g + 29) (8 * C + b) ((Z2 : Int) - Z0)) (e4 : M4 = mUI M3 (g + 25) C ((b : Int) + 1)) : mOk M4 ∧ brQ M a g N K R W C E tg s x M4 := by
  obtain ⟨c2, q28, hZ0, q25, hc⟩ := h
  obtain ⟨c3, f3, a3, G3⟩ := c2.st (i := 29) (i32s (by omega) (by omega)) (by omega) (by omega) (by decide) (by decide) e3
  obtain ⟨c4, f4, a4, G4⟩ := c3.st (i := 25) (i32s (by omega) (by omega)) (by omega) (by omega) (by decide) (by decide) e4
  refine ⟨c4.1.1, hx, T2, Z2, c4, fun z => ?_⟩
  have z2 : mI M2 a 16 = 0 := by rw [← a3, ← a4]; exact z
  obtain ⟨s1, s2, s3⟩ := hs z2
  obtain ⟨k1, k2⟩ := hc z2
  have G24 := G3.trans G4
  have hR := (c2.2.2.2.2 z2).1.1
  obtain ⟨n1, n2, n3, n4⟩ := k1
  refine ⟨s1, s2, s3, ?_⟩
  have r24 : mI M4 (g + 24) C = mI M2 (g + 24) C := by rw [f4, if_neg (fun z => by omega), f3, if_neg (fun z => by omega)]
  have r25 : mI M4 (g + 25) C = (b : Int) + 1 := by rw [f4, if_pos ⟨rfl, rfl⟩]
  unfold Cc
  rw [r24, r25]
  refine ⟨n1.gn G24 hR, by omega, by omega, fun b' hb' => ?_⟩
  have r26 : mI M4 (g + 26) (8 * C + b') = mI M2 (g + 26) (8 * C + b') := by rw [f4, if_neg (fun z => by omega), f3, if_neg (fun z => by omega)]
  have r28 : mI M4 (g + 28) (8 * C + b') = mI M2 (g + 28) (8 * C + b') := by rw [f4, if_neg (fun z => by omega), f3, if_neg (fun z => by omega)]
  by_cases y : b' = b
  · subst y
    have r29 : mI M4 (g + 29) (8 * C + b') = (Z2 : Int) - Z0 := by rw [f4, if_neg (fun z => by omega), f3, if_pos ⟨rfl, rfl⟩]
    unfold Bc
    rw [r26, r28, r29, q28]
    exact ⟨k2.gn G24 hR, by omega, by omega, by omega⟩
  · have r29 : mI M4 (g + 29) (8 * C + b') = mI M2 (g + 29) (8 * C + b') := by rw [f4, if_neg (fun z => by omega), f3, if_neg (fun z => by omega)]
    exact (n4 b' (by omega)).gn G24 hR ⟨r26, r28, r29⟩
end BR
end
section
/-! The reference: branch. -/
section BR2
variable {G : mG} {d a g R W C T2 Z2 N K : Nat} {M M2 M3 : mM} {E : Eg9} {tg : Int}
theorem cc_part {b : Nat} {M4 : mM} {T3 : Nat} (h : Cc M2 g R W T2 E.1 Z2 C) (hR : R ≤ 60) (hT : T2 ≤ T3) (hb : mI M2 (g + 25) C = (b : Int)) (G4 : Gn M2 g R W T2 M4) (c24 : mI M4 (g + 24) C = mI M2 (g + 24) C) (c25 : mI M4 (g + 25) C = mI M2 (g + 25) C) (cb : ∀ b' : Nat, b' < b → mI M4 (g + 26) (8 * C + b') = mI M2 (g + 26) (8 * C + b') ∧ mI M4 (g + 28) (8 * C + b') = mI M2 (g + 28) (8 * C + b') ∧ mI M4 (g + 29) (8 * C + b') = mI M2 (g + 29) (8 * C + b')) : Cc M4 g R W T3 E.1 Z2 C := by
  obtain ⟨h1, h2, h3, h4⟩ := h
  have hE : ∀ r, r < R → E.1 r = E.1 r := fun _ _ => rfl
  refine Cc.up (T := T2) (Z := Z2) ?_ (Nat.le_refl _) (Nat.le_refl _) hT (Nat.le_refl _) hE
  unfold Cc
  rw [c24, c25]
  exact ⟨h1.gn G4 hR, h2, h3, fun b' hb' => (h4 b' hb').gn G4 hR (cb b' (by omega))⟩
/-- after a set, still inside the branch -/
theorem bI.si {b Z0 c Tm T3 Z3 : Nat} (h : bI M a g N K R W C E tg b Z0 T2 Z2 M2) (z2 : mI M2 a 16 = 0) (m : Mv (itP a g) (fun y => y = a) M2 a M3) (c3 : cI M a g N K R W C E tg T3 Z3 M3) (hT : T2 ≤ T3) (hZ : Z2 ≤ Z3) (k : mI M3 a 16 = 0 → Ge M2 g R W (C + 1) Z2 T2 M3) (hb : b < 8) : bI M a g N K R W C E tg b Z0 T3 Z3 M3 := by
  obtain ⟨c2, q28, hZ0, q25, hc⟩ := h
  have hg := c2.1.2.2.2.2.2.1
  have w2 := c2.1.2.1.1.1
  have hin : ∀ q, itP a g q → q ∈ nums a := fun q hq => hq.1
  have s28 := (m.cellL w2 hin (goffx (i := 28) hg (by decide) (by decide)) (by omega)).1
  have s25 := (m.cellL w2 hin (goffx (i := 25) hg (by decide) (by decide)) (by omega)).1
  refine ⟨c3, by rw [s28]; exact q28, by omega, by rw [s25]; exact q25, fun z => ?_⟩
  have G3 := k z
  obtain ⟨k1, k2⟩ := hc z2
  have hR := (c2.2.2.2.2 z2).1.1
  have hE : ∀ r, r < R → E.1 r = E.1 r := fun _ _ => rfl
  have r0 := Nat.le_refl R
  have w0 := Nat.le_refl W
  refine ⟨(k1.gn G3.1 hR (G3.2.2.2.1 C (by omega))).up r0 w0 hT hZ hE, ?_⟩
  rw [((G3.2.2.2.1 C (by omega)).2.2 b hb).1]
  exact (k2.gn G3.1 hR).up r0 w0 hT hE
end BR2
end
section
/-! The reference: branch, to its end. -/
section BR3
variable {G : mG} {d a g R W C T2 T3 Z2 N K : Nat} {M M2 M3 : mM} {E : Eg9} {tg : Int}
theorem cI.rl {co t : Int} (h : cI M a g N K R W C E tg T2 Z2 M2) (z2 : mI M2 a 16 = 0) (t1 : T2 ≤ T3) (Rl : rlR co M2 a g N T2 K T3 t M3) (hp : mI M3 a 16 = 0 → ∀ n, n < T2 → pm M3 g n = pm M2 g n) : cI M a g N K R W C E tg T3 Z2 M3 ∧ (mI M3 a 16 = 0 → Ge M2 g R W (C + 1) Z2 T2 M3) := by
  obtain ⟨L2, I2, ⟨g2, g6, g12⟩, ⟨z30, z32, z34⟩, D2⟩ := h
  obtain ⟨I3, G3, y30, y32, y34⟩ := rlR.ge (R := R) (W := W) (C := C + 1) (Z := Z2) L2 Rl
  have g3 : mI M3 g = mI M2 g := Rl.2.2.2.1
  exact ⟨⟨Rl.2.1, I2.trans I3, ⟨g3.trans g2, by rw [g3]; exact g6, by rw [g3]; exact g12⟩, ⟨y30.trans z30, y32.trans z32, y34.trans z34⟩, fun z => ((D2 z2).ge ((G3 z (hp z)).down (Nat.le_refl _) (Nat.le_refl _) (Nat.le_succ _) (Nat.le_refl _) (Nat.le_refl _))).tu t1⟩, fun z => G3 z (hp z)⟩
/-- a branch's chance, place and first set are put down -/
theorem br_put {b : Nat} {pl : Int} {M4 M5 M6 : mM} (h : cI M a g N K R W C E tg T2 Z2 M2) (z2 : mI M2 a 16 = 0) (hcc : Cc M2 g R W T2 E.1 Z2 C) (hb : mI M2 (g + 25) C = (b : Int)) (hb8 : b < 8) (hZ : Z2 ≤ 16385) (hT2 : T2 ≤ 16385) (t1 : T2 ≤ T3) (ip : i32 pl) (Rl : rlR 0 M2 a g N T2 K T3 0 M3) (hp : mI M3 a 16 = 0 → ∀ n, n < T2 → pm M3 g n = pm M2 g n) (e4 : M4 = mUI M3 (g + 26) (8 * C + b) (T2 : Int)) (e5 : M5 = mUI M4 (g + 27) (8 * C + b) pl) (e6 : M6 = mUI M5 (g + 28) (8 * C + b) (Z2 : Int)) : bI M a g N K R W C E tg b Z2 T3 Z2 M6 ∧ (cI M a g N K R W C E tg T3 Z2 M4 ∧ cI M a g N K R W C E tg T3 Z2 M5) ∧ mI M6 a = mI M3 a := by
  obtain ⟨c3, G3⟩ := h.rl z2 t1 Rl hp
  obtain ⟨c4, f4, a4, G4⟩ := c3.st (i := 26) (i32s (by omega) (by omega)) (by omega) (by omega) (by decide) (by decide) e4
  obtain ⟨c5, f5, a5, G5⟩ := c4.st (i := 27) ip (by omega) (by omega) (by decide) (by decide) e5
  obtain ⟨c6, f6, a6, G6⟩ := c5.st (i := 28) (i32s (by omega) (by omega)) (by omega) (by omega) (by decide) (by decide) e6
  have aI : mI M6 a = mI M3 a := by rw [a6, a5, a4]
  have hg := h.1.2.2.2.2.2.1
  have w2 := h.1.2.1.1.1
  have hin : ∀ q, rlP a g q → q ∈ nums a := fun q hq => rlP_in hg hq
  have cell : ∀ i, i ≤ 29 → frO (13 + i) → frO (49 + i) → mI M3 (g + i) = mI M2 (g + i) := fun i i1 f1 f2 => (Rl.1.cellL w2 hin (goffx hg f1 f2) (by omega)).1
  have n25 : ∀ k, mI M6 (g + 25) k = mI M2 (g + 25) k := fun k => by rw [f6, if_neg (fun z => by omega), f5, if_neg (fun z => by omega), f4, if_neg (fun z => by omega), cell 25 (by omega) (by decide) (by decide)]
  have n24 : ∀ k, mI M6 (g + 24) k = mI M2 (g + 24) k := fun k => by rw [f6, if_neg (fun z => by omega), f5, if_neg (fun z => by omega), f4, if_neg (fun z => by omega), cell 24 (by omega) (by decide) (by decide)]
  have n29 : ∀ k, mI M6 (g + 29) k = mI M2 (g + 29) k := fun k => by rw [f6, if_neg (fun z => by omega), f5, if_neg (fun z => by omega), f4, if_neg (fun z => by omega), cell 29 (by omega) (by decide) (by decide)]
  have n26 : ∀ k, k ≠ 8 * C + b → mI M6 (g + 26) k = mI M2 (g + 26) k := fun k hk => by rw [f6, if_neg (fun z => by omega), f5, if_neg (fun z => by omega), f4, if_neg (fun z => hk z.2), cell 26 (by omega) (by decide) (by decide)]
  have n28 : ∀ k, k ≠ 8 * C + b → mI M6 (g + 28) k = mI M2 (g + 28) k := fun k hk => by rw [f6, if_neg (fun z => hk z.2), f5, if_neg (fun z => by omega), f4, if_neg (fun z => by omega), cell 28 (by omega) (by decide) (by decide)]
  have v26 : mI M6 (g + 26) (8 * C + b) = (T2 : Int) := by rw [f6, if_neg (fun z => by omega), f5, if_neg (fun z => by omega), f4, if_pos ⟨rfl, rfl⟩]
  have v28 : mI M6 (g + 28) (8 * C + b) = (Z2 : Int) := by rw [f6, if_pos ⟨rfl, rfl⟩]
  clear f4 f5 f6 cell
  refine ⟨⟨c6, v28, Nat.le_refl _, by rw [n25]; exact hb, fun z => ?_⟩, ⟨c4, c5⟩, aI⟩
  rw [aI] at z
  have G3 := G3 z
  have G36 := (G4.trans G5).trans G6
  have D2 := h.2.2.2.2 z2
  have hR := D2.1.1
  have G26 : Gn M2 g R W T2 M6 := G3.1.trans ⟨fun n hn => G36.1 n (by omega), G36.2⟩
  refine ⟨cc_part hcc hR t1 hb G26 (n24 C) (n25 C) (fun b' hb' => ⟨n26 _ (by omega), n28 _ (by omega), n29 _⟩), ?_⟩
  rw [v26]
  exact (rl_rt h.1 h.2.2.1.2.1 h.2.2.1.2.2 D2 Rl z (hp z)).gn G36 hR
end BR3
end
section
/-! The reference: commandItem. -/
section CO
variable {G : mG} {d a g R W C T Z T2 Z2 N K : Nat} {M M2 M3 : mM} {E : Eg9} {tg : Int}
theorem Df.ci (h : Df M a g N T K R W C Z E tg) : cI M a g N K R W C E tg T Z M :=
  ⟨h.1, iF.refl h.1.1 h.1.2.1.1.1, ⟨rfl, h.2.1.1, h.2.1.2.1⟩, h.2.2.1, fun _ => h.2.2.2.2⟩
end CO
end
section
/-! The reference: the items of a text are read. -/
section ITE
variable {G : mG} {d a g R W C T Z T2 T3 N K : Nat} {M M2 M3 : mM} {E : Eg9} {tg : Int}
theorem Df.tgt {M4 : mM} (h : Df M2 a g N T2 K R W C Z E tg) (t1 : T2 < T3) {ij : Nat × Nat} (Rl : rlR 0 M2 a g N T2 K T3 1 M3) (hp : mI M3 a 16 = 0 → ∀ n, n < T2 → pm M3 g n = pm M2 g n) (hw : mI M3 a 16 = 0 → Rtw E.2 M3 g R W T3 E.1 (T2 : Int) 1 ij.1 ij.2) (hT3 : T3 ≤ 30000) (e : M4 = mUI M3 g 17 (T2 : Int)) : iF M2 a g M4 ∧ mI M4 a = mI M3 a ∧ mOk M4 ∧ (mI M3 a 16 = 0 → Df M4 a g N T3 K R W C Z (E.1, gWs E.2 E.2.2.2.2.2.2.1 (E.2.2.2.2.2.2.2.1, some ij, E.2.2.2.2.2.2.2.2.2)) (T2 : Int)) := by
  obtain ⟨hL, ⟨g6, g12, g18, g17⟩, ⟨y30, y32, y34⟩, hK, hD⟩ := h
  obtain ⟨I3, G3, z30, z32, z34⟩ := rlR.ge (R := R) (W := W) (C := C) (Z := Z) hL Rl
  have L3 := Rl.2.1
  have g3 : mI M3 g = mI M2 g := Rl.2.2.2.1
  have hg := L3.2.2.2.2.2.1
  have hB := L3.2.2.2.2.2.2.1
  have w3 := L3.2.1.1.1
  have a0 := goff0 hg
  obtain ⟨m1, f1, l1⟩ := mv_cell (v := (T2 : Int)) (i32s (by omega) (by omega)) L3.1 w3 (show a ≤ g by omega) ⟨a0.1, a0.2.1, a0.2.2.1⟩ e
  have no : ∀ q : Nat, False → q ∈ nums a := fun _ z => z.elim
  have aI1 := (m1.fld w3 no (by omega)).1
  have n17 : ∀ i, i ≠ 17 → mI M4 g i = mI M3 g i := fun i hi => by rw [f1, if_neg (fun z => hi z.2)]
  have x17 : mI M4 g 17 = (T2 : Int) := by rw [f1, if_pos ⟨rfl, rfl⟩]
  have L4 : Lc M4 a g N T3 K := L3.mv m1 no (fun _ z => z.elim) (by rw [n17 6 (by omega)]; omega) (by rw [n17 12 (by omega)]; omega) (by rw [n17 6 (by omega), n17 12 (by omega)]; omega) (fun r _ => by rw [f1, if_neg (fun z => by omega)])
  have s : ∀ {q}, q ∈ nums a → sameN M3 M4 q := fun hq => m1.lst hq (fun z => z)
  refine ⟨I3.trans (iF.mk w3 m1 (fun _ z => z.elim) (fun x z => Or.inr (Or.inl (by omega))) (fun i _ _ _ => by rw [aI1])), aI1, m1.1, fun z => ?_⟩
  have G4 : Ge M3 g R W C Z T3 M4 := ge_mv w3 hg m1 no (fun z => z) (fun z => z) (fun z => z) (fun i i1 i2 (z : g + i = g) => by omega) (fun n _ => ⟨(s (tL_in (q := g + 1) hg (tLk1 g))).2.1 n, (s (tL_in (q := g + 7) hg (tLk7 g))).2.1 n, (s (tL_in (q := g + 9) hg (tLk9 g))).2.1 n, (s (tL_in (q := g + 11) hg (tLk11 g))).2.1 n, (s (tL_in (q := g + 3) hg (tLk3 g))).2.1 n⟩)
  have rt := (rl_rt hL g6 g12 hD Rl z (hp z)).gn G4.1 hD.1.1
  have D4 := ((hD.ge (G3 z (hp z))).tu (Nat.le_of_lt t1)).ge G4
  exact ⟨L4, ⟨by rw [n17 6 (by omega), g3]; exact g6, by rw [n17 12 (by omega), g3]; exact g12, by rw [n17 18 (by omega), g3]; exact g18, x17⟩, ⟨by rw [(s (n30 hg)).1, z30]; exact y30, by rw [(s (n32 hg)).1, z32]; exact y32, by rw [(s (n34 hg)).1, z34]; exact y34⟩, hK, D4.tgu rfl (D4.2.2.2.2.2.2.2.tgu ((hw z).gn G4.1 hD.1.1)) (Or.inr rt)⟩
theorem Lc.ue {k e : Nat} {Q : Int → mM → Prop} (h : Lc M a g N T K) (hi : It (wk M a) k e) (he : e < N) (hQ : Q e M) : Ci G y_MM_until (d + 2) [vr a, vi k, vi 34] M Q := by
  refine (s_until_end (d := d) h.1 h.2.1.1 hi he).mono (fun x M1 e1 => ?_)
  obtain ⟨e1, hx⟩ := e1
  subst e1
  rw [hx]
  exact hQ
end ITE
end
