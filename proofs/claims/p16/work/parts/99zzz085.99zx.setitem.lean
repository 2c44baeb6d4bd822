/-! The reference: a set. -/
section SI
variable {G : mG} {d a g R W C Z T T2 T3 Z2 N K : Nat} {M M' M2 M3 : mM} {E : Eg9} {tg : Int} {P S : Nat → Prop}
theorem ge_mvl (w : Wd M a) (hg : g = a + 13 ∨ g = a + 49) (m : Mv P S M a M') (hin : ∀ q, P q → q ∈ nums a) (h30 : ∀ i : Nat, i < Z → nt M' (g + 30) i = nt M (g + 30) i) (h34 : ∀ i : Nat, i < Z → nt M' (g + 34) i = nt M (g + 34) i) (h32 : ∀ i : Nat, i < Z → nt M' (g + 32) i = nt M (g + 32) i) (hS : ∀ i, 13 ≤ i → i ≤ 29 → ¬ S (g + i)) (hn : ∀ n, n < T → so M' g n = so M g n ∧ va M' g n = va M g n ∧ fp M' g n = fp M g n ∧ np M' g n = np M g n ∧ pm M' g n = pm M g n) : Ge M g R W C Z T M' := by
  have c22 := m.cellL w hin (goffx (i := 22) hg (by decide) (by decide)) (hS 22 (by omega) (by omega))
  have c23 := m.cellL w hin (goffx (i := 23) hg (by decide) (by decide)) (hS 23 (by omega) (by omega))
  have c27 := m.cellL w hin (goffx (i := 27) hg (by decide) (by decide)) (hS 27 (by omega) (by omega))
  have c13 := m.cellL w hin (goffx (i := 13) hg (by decide) (by decide)) (hS 13 (by omega) (by omega))
  have c14 := m.cellL w hin (goffx (i := 14) hg (by decide) (by decide)) (hS 14 (by omega) (by omega))
  have c15 := m.cellL w hin (goffx (i := 15) hg (by decide) (by decide)) (hS 15 (by omega) (by omega))
  have c16 := m.cellL w hin (goffx (i := 16) hg (by decide) (by decide)) (hS 16 (by omega) (by omega))
  have c17 := m.cellL w hin (goffx (i := 17) hg (by decide) (by decide)) (hS 17 (by omega) (by omega))
  have c18 := m.cellL w hin (goffx (i := 18) hg (by decide) (by decide)) (hS 18 (by omega) (by omega))
  have c19 := m.cellL w hin (goffx (i := 19) hg (by decide) (by decide)) (hS 19 (by omega) (by omega))
  have c20 := m.cellL w hin (goffx (i := 20) hg (by decide) (by decide)) (hS 20 (by omega) (by omega))
  have c21 := m.cellL w hin (goffx (i := 21) hg (by decide) (by decide)) (hS 21 (by omega) (by omega))
  have c24 := m.cellL w hin (goffx (i := 24) hg (by decide) (by decide)) (hS 24 (by omega) (by omega))
  have c25 := m.cellL w hin (goffx (i := 25) hg (by decide) (by decide)) (hS 25 (by omega) (by omega))
  have c26 := m.cellL w hin (goffx (i := 26) hg (by decide) (by decide)) (hS 26 (by omega) (by omega))
  have c28 := m.cellL w hin (goffx (i := 28) hg (by decide) (by decide)) (hS 28 (by omega) (by omega))
  have c29 := m.cellL w hin (goffx (i := 29) hg (by decide) (by decide)) (hS 29 (by omega) (by omega))
  exact ⟨⟨hn, fun r _ => ⟨by rw [c13.1], by rw [c14.1]⟩, fun v _ => by rw [c18.1]⟩, fun r _ => ⟨by rw [c15.1], by rw [c16.2], by rw [c17.2]⟩, fun v _ => ⟨by rw [c19.1], by rw [c20.1], by rw [c21.1]⟩, fun c _ => ⟨by rw [c24.1], by rw [c25.1], fun b _ => ⟨by rw [c26.1], by rw [c28.1], by rw [c29.1], by rw [c27.1], by rw [c22.1], by rw [c23.1]⟩⟩, fun i hi => ⟨h30 i hi, h34 i hi, h32 i hi⟩⟩
/-- a set list grows -/
theorem gadd {p : Nat} {v : Int} (h : Lc M2 a g N T2 K) (hp : p = g + 30 ∨ p = g + 32 ∨ p = g + 34) (hZ : (Z : Int) ≤ ln M2 p) (t : adQ M2 p v M3) : Lc M3 a g N T2 K ∧ Mv (fun x => x = p) (fun _ => False) M2 a M3 ∧ mI M3 g = mI M2 g ∧ mI M3 a = mI M2 a ∧ Ge M2 g R W C Z T2 M3 := by
  have hg := h.2.2.2.2.2.1
  have hB := h.2.2.2.2.2.2.1
  have w := h.2.1.1.1
  have hpn : p ∈ nums a := by
    rcases hp with z | z | z <;> rw [z]
    · exact n30 hg
    · exact n32 hg
    · exact n34 hg
  have m := mv_add w hpn t
  obtain ⟨-, -, -, -, t5, -⟩ := t
  have hin : ∀ q, q = p → q ∈ nums a := fun q hq => by rw [hq]; exact hpn
  have gI := m.gI w hg hin (fun z => z)
  have o13 := goffx (i := 13) hg (by decide) (by decide)
  have c13 := m.cell w hin o13.1 o13.2.1 o13.2.2 (fun z => z)
  have nn : ∀ n, so M3 g n = so M2 g n ∧ va M3 g n = va M2 g n ∧ fp M3 g n = fp M2 g n ∧ np M3 g n = np M2 g n ∧ pm M3 g n = pm M2 g n := fun n => ⟨(m.lst (tL_in (q := g + 1) hg (tLk1 g)) (by omega)).2.1 n, (m.lst (tL_in (q := g + 7) hg (tLk7 g)) (by omega)).2.1 n, (m.lst (tL_in (q := g + 9) hg (tLk9 g)) (by omega)).2.1 n, (m.lst (tL_in (q := g + 11) hg (tLk11 g)) (by omega)).2.1 n, (m.lst (tL_in (q := g + 3) hg (tLk3 g)) (by omega)).2.1 n⟩
  refine ⟨h.mv m hin (fun q hq => by omega) (by rw [gI]; omega) (by rw [gI]; omega) (by rw [gI]; omega) (fun r _ => by rw [c13]), m, gI, (m.fld w hin (fun z => z)).1, ge_mvl w hg m hin (fun i hi => ?_) (fun i hi => ?_) (fun i hi => ?_) (fun _ _ _ z => z) (fun n _ => nn n)⟩
  · by_cases z : p = g + 30
    · rw [← z]; exact t5 i (by omega)
    · exact (m.lst (n30 hg) (fun y => z y.symm)).2.1 i
  · by_cases z : p = g + 34
    · rw [← z]; exact t5 i (by omega)
    · exact (m.lst (n34 hg) (fun y => z y.symm)).2.1 i
  · by_cases z : p = g + 32
    · rw [← z]; exact t5 i (by omega)
    · exact (m.lst (n32 hg) (fun y => z y.symm)).2.1 i
/-- the root of a rule that has been read -/
theorem rl_rt {t : Int} (hL : Lc M2 a g N T2 K) (g6 : mI M2 g 6 = R) (g12 : mI M2 g 12 = W) (hD : Dg M2 g R W C Z T2 E tg) (h : rlR 0 M2 a g N T2 K T3 t M3) (z : mI M3 a 16 = 0) (hp : ∀ n, n < T2 → pm M3 g n = pm M2 g n) : Rt M3 g R W T3 E.1 T2 t := by
  have hR := hD.1.1
  have G3 := (rlR.ge (R := R) (W := W) (C := 0) (Z := 0) hL h).2.1 z hp
  rcases h.2.2.2.2.2 with y | ⟨-, ⟨f, ty⟩, -⟩
  · exact absurd z y
  · refine ⟨T2, R, f, T3, rfl, Nat.le_refl _, fun r hr q => ?_, ty.mono (fun v hv => ?_), Nat.le_refl _⟩
    · rw [(G3.1.2.1 r hr).1] at q
      obtain ⟨n, f', -, q2, -⟩ := hD.2.2.1 r hr q
      exact q2
    · unfold nmr at hv
      rw [g6, g12] at hv
      rcases hv with ⟨h1, h2, h3, h4⟩ | ⟨-, h1, h2, h3⟩
      · have gt := G3.1.tr (r := v.toNat) hR (by omega)
        rw [show ((v.toNat : Nat) : Int) = v by omega] at gt
        exact ⟨Or.inl ⟨h1, h2, Or.inl trivial⟩, gt⟩
      · exact ⟨Or.inr ⟨trivial, h1, h2⟩, G3.1.tv h1 h2⟩
/-- inside a command item -/
def cI (M : mM) (a g N K R W C : Nat) (E : Eg9) (tg : Int) (T2 Z2 : Nat) (M2 : mM) : Prop := Lc M2 a g N T2 K ∧ iF M a g M2 ∧ (mI M2 g = mI M g ∧ mI M2 g 6 = R ∧ mI M2 g 12 = W) ∧ (ln M2 (g + 30) = Z2 ∧ ln M2 (g + 32) = Z2 ∧ ln M2 (g + 34) = Z2) ∧ (mI M2 a 16 = 0 → Dg M2 g R W C Z2 T2 E tg)
/-- a set has been read -/
def siQ (M : mM) (a g N K R W C : Nat) (E : Eg9) (tg : Int) (c T2 Z2 Tm : Nat) (M2 : mM) (x : Int) (M3 : mM) : Prop := (x = (c : Int) ∨ x = (c + 1 : Nat)) ∧ Mv (itP a g) (fun y => y = a) M2 a M3 ∧ ∃ T3 Z3 : Nat, cI M a g N K R W C E tg T3 Z3 M3 ∧ (T2 ≤ T3 ∧ T3 ≤ T2 + Tm ∧ Z2 ≤ Z3 ∧ Z3 ≤ Z2 + 1) ∧ (mI M3 a 16 = 0 → x = (c + 1 : Nat) ∧ Ge M2 g R W (C + 1) Z2 T2 M3)
theorem si_stop {c Tm : Nat} {cc p : Int} (h : cI M a g N K R W C E tg T2 Z2 M2) (hc : cc ≠ 0) (q : Mv (fun _ => False) (fun x => x = a) M2 a M3 ∧ mI M3 a 16 = cc ∧ mI M3 a 17 = p ∧ ∀ i, i ≠ 16 → i ≠ 17 → mI M3 a i = mI M2 a i) : siQ M a g N K R W C E tg c T2 Z2 Tm M2 c M3 := by
  obtain ⟨L2, I2, g2, z2, D2⟩ := h
  obtain ⟨L3, g3, G3, z3, c18⟩ := L2.sp (R := R) (W := W) (C := C) (Z := Z2) q.1 (fun _ z => z) (fun _ z => z)
  have w2 := L2.2.1.1.1
  have z16 : mI M3 a 16 ≠ 0 := by rw [q.2.1]; exact hc
  refine ⟨Or.inl rfl, q.1.mono (fun _ z => z.elim) (fun x z => z) (itP_lt w2), T2, Z2, ⟨L3, I2.trans (iF.mk w2 q.1 (fun _ z => z.elim) (fun x z => Or.inl z) (fun i i1 i2 _ => q.2.2.2 i i1 i2)), ⟨g3.trans g2.1, by rw [g3]; exact g2.2.1, by rw [g3]; exact g2.2.2⟩, ⟨by rw [z3.1]; exact z2.1, by rw [z3.2.1]; exact z2.2.1, by rw [z3.2.2]; exact z2.2.2⟩, fun z => absurd z z16⟩, ⟨Nat.le_refl _, by omega, Nat.le_refl _, by omega⟩, fun z => absurd z z16⟩
end SI
