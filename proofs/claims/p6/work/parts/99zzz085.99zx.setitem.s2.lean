section
/-! The reference: commandItem. -/
section CO
variable {G : mG} {d a g R W C T Z T2 Z2 N K : Nat} {M M2 M3 : mM} {E : Nat → Nat} {tg : Int}
theorem Df.ci (h : Df M a g N T K R W C Z E tg) : cI M a g N K R W C E tg T Z M :=
  ⟨h.1, iF.refl h.1.1 h.1.2.1.1.1, ⟨rfl, h.2.1.1, h.2.1.2.1⟩, h.2.2.1, fun _ => h.2.2.2.2⟩
/-- the command is counted -/
theorem ci_end {e : Nat} (h0 : Df M a g N T K R W C Z E tg) (hC : C < 60) (h : cI M a g N K R W C E tg T2 Z2 M2) (hc : mI M2 a 16 = 0 → Cc M2 g R W T2 E Z2 C ∧ T2 ≤ e ∧ Z2 ≤ e) (e3 : M3 = mUI M2 g 18 ((C : Int) + 1)) : mOk M3 ∧ itQ M a g N e M3 := by
  obtain ⟨hL, ⟨g6, g12, g18, g17⟩, -, hK, hD⟩ := h0
  obtain ⟨L2, I2, ⟨g2, q6, q12⟩, ⟨z30, z32, z34⟩, D2⟩ := h
  have hg := L2.2.2.2.2.2.1
  have hB := L2.2.2.2.2.2.2.1
  have w2 := L2.2.1.1.1
  have a0 := goff0 hg
  obtain ⟨m1, f1, l1⟩ := mv_cell (v := (C : Int) + 1) (i32s (by omega) (by omega)) L2.1 w2 (show a ≤ g by omega) ⟨a0.1, a0.2.1, a0.2.2.1⟩ e3
  have no : ∀ q : Nat, False → q ∈ nums a := fun _ z => z.elim
  have aI1 := (m1.fld w2 no (by omega)).1
  have n18 : ∀ i, i ≠ 18 → mI M3 g i = mI M2 g i := fun i hi => by rw [f1, if_neg (fun z => hi z.2)]
  have x18 : mI M3 g 18 = (C : Int) + 1 := by rw [f1, if_pos ⟨rfl, rfl⟩]
  have L3 : Lc M3 a g N T2 K := L2.mv m1 no (fun _ z => z.elim) (by rw [n18 6 (by omega)]; omega) (by rw [n18 12 (by omega)]; omega) (by rw [n18 6 (by omega), n18 12 (by omega)]; omega) (fun r _ => by rw [f1, if_neg (fun z => by omega)])
  have s : ∀ {q}, q ∈ nums a → sameN M2 M3 q := fun hq => m1.lst hq (fun z => z)
  refine ⟨m1.1, I2.trans (iF.mk w2 m1 (fun _ z => z.elim) (fun x z => Or.inr (Or.inl (by omega))) (fun i _ _ _ => by rw [aI1])), ?_⟩
  by_cases z : mI M3 a 16 = 0
  · have z2 : mI M2 a 16 = 0 := by rw [← aI1]; exact z
    obtain ⟨c1, c2, c3⟩ := hc z2
    have G3 : Ge M2 g R W (C + 1) Z2 T2 M3 := ge_mv w2 hg m1 no (fun z => z) (fun z => z) (fun i i1 i2 (z : g + i = g) => by omega) (fun n _ => ⟨(s (tL_in (q := g + 1) hg (by omega))).2.1 n, (s (tL_in (q := g + 7) hg (by omega))).2.1 n, (s (tL_in (q := g + 9) hg (by omega))).2.1 n, (s (tL_in (q := g + 11) hg (by omega))).2.1 n⟩)
    exact Or.inr ⟨z, T2, K, R, W, C + 1, Z2, E, tg, ⟨L3, ⟨by rw [n18 6 (by omega)]; exact q6, by rw [n18 12 (by omega)]; exact q12, by rw [x18]; omega, by rw [n18 17 (by omega), g2]; exact g17⟩, ⟨by rw [(s (n30 hg)).1]; exact z30, by rw [(s (n32 hg)).1]; exact z32, by rw [(s (n34 hg)).1]; exact z34⟩, hK, ((D2 z2).cu hC c1).ge G3⟩, c2, c3⟩
  · exact Or.inl z
theorem s_ci_end {e : Nat} {p : Int} (h0 : Df M a g N T K R W C Z E tg) (hC : C < 60) (h : cI M a g N K R W C E tg T2 Z2 M2) (heN : e < N) (hc : mI M2 a 16 = 0 → Cc M2 g R W T2 E Z2 C ∧ T2 ≤ e + 1 ∧ Z2 ≤ e + 1) (ip : i32 p) (hp : ¬ (mI M2 a 16 = 0) ∨ (e : Int) ≤ p) : h_MM_commandItem_116 G (d + 9) a e C p M2 (fun M' => mOk M' ∧ itQ M a g N (e + 1) M') := by
  have L2 := h.1
  have hN := L2.2.1.1.2.2
  have hg := L2.2.2.2.2.2.1
  have w2 := L2.2.1.1.1
  refine k_MM_commandItem_116 L2.1 (i32s (by omega) (by omega)) (i32s (by omega) (by omega)) ip ⟨w2.1.1, fun _ => ?_, fun q => absurd hp q⟩
  rw [show mR M2 a 10 = g from L2.2.2.2.2.1]
  exact ⟨(w2.gp hg).1, i32s (by omega) (by omega), fun M3 e3 => ci_end h0 hC h hc e3⟩
theorem s_ci_run {e : Nat} (h0 : Df M a g N T K R W C Z E tg) (hC : C < 60) (heN : e < N) (hg : g = a + 13 ∨ g = a + 49) : ∀ (f p T2 Z2 : Nat) (M2 : mM), cI M a g N K R W C E tg T2 Z2 M2 → mI M2 a 16 = 0 → Cc M2 g R W T2 E Z2 C → Br (wk M a) f p e → T2 ≤ p → Z2 ≤ p → h_MM_commandItem_116 G (d + 9) a e C p M2 (fun M' => mOk M' ∧ itQ M a g N (e + 1) M') := by
  intro f
  induction f with
  | zero => intro p T2 Z2 M2 _ _ _ hb; exact hb.elim
  | succ f ih =>
    intro p T2 Z2 M2 h z2 hcc hbr hT hZ
    have L2 := h.1
    have hN := L2.2.1.1.2.2
    have w2 := L2.2.1.1.1
    obtain ⟨q, s, h1, h2, h3, h4⟩ := hbr
    have p1 := h1.pr.1
    have p3 := h3.sg.1
    have hse : s ≤ e := by
      rcases h4 with ⟨y, -⟩ | ⟨-, y⟩
      · omega
      · have := y.sg.1; omega
    refine k_MM_commandItem_116 L2.1 (i32s (by omega) (by omega)) (i32s (by omega) (by omega)) (i32s (by omega) (by omega)) ⟨w2.1.1, fun q => ?_, fun _ => ?_⟩
    · rcases q with q | q
      · exact absurd z2 q
      · omega
    refine (s_MM_branch0 (d := d) h z2 hcc hC h1 h2 h3 (by omega) heN hT hZ).mono (fun x M3 t3 => ?_)
    obtain ⟨ix, o3, hx, T3, Z3, c3, k3⟩ := t3
    refine ⟨ix, o3, ?_⟩
    by_cases z3 : mI M3 a 16 = 0
    · obtain ⟨ex, t1, t2, cc⟩ := k3 z3
      subst ex
      rw [show (s : Int) + 1 = ((s + 1 : Nat) : Int) by omega]
      rcases h4 with ⟨y, -⟩ | ⟨-, y⟩
      · exact s_ci_end h0 hC c3 heN (fun _ => ⟨cc, by omega, by omega⟩) (i32s (by omega) (by omega)) (Or.inr (by omega))
      · exact ih (s + 1) T3 Z3 M3 c3 z3 cc y (by omega) (by omega)
    · exact s_ci_end h0 hC c3 heN (fun y => absurd y z3) (i32s (by omega) (by omega)) (Or.inl z3)
end CO
end
section
/-! The reference: commandItem, to its end. -/
section CO2
variable {G : mG} {d a g R W C T Z N K : Nat} {M : mM} {E : Nat → Nat} {tg : Int}
theorem s_MM_commandItem {k e j f : Nat} (h : Df M a g N T K R W C Z E tg) (h16 : mI M a 16 = 0) (he6 : Eo (wk M a) 6 (k + 1) j) (w17 : wk M a j = 17) (hbr : Br (wk M a) f (j + 1) e) (heN : e < N) (hT : T ≤ k) (hZ : Z ≤ k) : Cv G y_MM_commandItem (d + 10) [vr a, vi k, vi e] M (fun M' => mOk M' ∧ itQ M a g N (e + 1) M') := by
  have hL := h.1
  have hN := hL.2.1.1.2.2
  have hg := hL.2.2.2.2.2.1
  have w := hL.2.1.1.1
  have g18 := h.2.1.2.2.1
  have hBd := h.2.2.2.2.1
  have hlt := he6.pr.1
  have hbs := hbr.sg.1
  have ie : i32 (e : Int) := i32s (by omega) (by omega)
  have ik : i32 (k : Int) := i32s (by omega) (by omega)
  have kN : k < N := by omega
  have jN : j < N := by omega
  refine k_MM_commandItem hL.1 ik ie ⟨w.1.1, ?_⟩
  rw [show mR M a 10 = g from hL.2.2.2.2.1, g18, show (k : Int) + 1 = ((k + 1 : Nat) : Int) by omega]
  refine ⟨(w.gp hg).1, fun q => s_st_it (d := d + 8) (c := 5) (by decide) ⟨by decide, by decide⟩ hL kN, fun q => ?_⟩
  have hC : C < 60 := by omega
  have b60 : ((0 : Int) ≤ (C : Int) ∧ (C : Int) < ((60 : Nat) : Int)) := by omega
  have hT3 : T + (j - (k + 1)) ≤ 30000 := by omega
  refine hL.ub (d := d + 7) (by omega) he6.pr.2.2.2.2.1 jN w17 (Or.inr (Or.inl rfl)) ⟨i32s (by omega) (by omega), hL.1, w.1.1, ?_⟩
  rw [show mR M a 10 = g from hL.2.2.2.2.1, show mR M g 19 = g + 22 from (w.gp hg).2.2.1.2.2.2.2.1]
  refine ⟨(w.gp hg).1, hL.wd (d := d + 8) kN (fun x hx ix => ⟨ix, hL.1, fun v hv => ⟨(w.gp hg).2.2.2.2.2.1.1, by rw [(w.gp hg).2.2.2.2.2.1.2]; exact b60, fun M2 e2 => ?_⟩⟩)⟩
  rw [Int.toNat_natCast] at e2 ⊢
  have iv : i32 v := by rw [hv]; split <;> exact ⟨by decide, by decide⟩
  obtain ⟨c2, f2, a2, G2⟩ := h.ci.st (i := 22) iv (by omega) (by omega) (by decide) (by decide) e2
  have L2 := c2.1
  have w2 := L2.2.1.1.1
  rw [show mR M2 a 10 = g from L2.2.2.2.2.1, show mR M2 g 20 = g + 23 from (w2.gp hg).2.2.1.2.2.2.2.2.1]
  refine ⟨w2.1.1, (w2.gp hg).1, (s_MM_place0 (d := d + 8) L2.1 L2.2.1 kN).mono (fun y M3 h3 => ?_)⟩
  obtain ⟨e3, hy⟩ := h3
  subst e3
  have hy32 : i32 y := by rw [hy]; exact (L2.1 _ _).1
  refine ⟨hy32, L2.1, (w2.gp hg).2.2.2.2.2.2.1.1, by rw [(w2.gp hg).2.2.2.2.2.2.1.2]; exact b60, fun M4 e4 => ?_⟩
  obtain ⟨c4, f4, a4, G4⟩ := c2.st (i := 23) hy32 (by omega) (by omega) (by decide) (by decide) e4
  have L4 := c4.1
  have w4 := L4.2.1.1.1
  have wkE := c4.2.1.wk hg
  have z4 : mI M4 a 16 = 0 := by rw [a4, a2]; exact h16
  rw [show mR M4 a 10 = g from L4.2.2.2.2.1, show mR M4 g 21 = g + 24 from (w4.gp hg).2.2.1.2.2.2.2.2.2.1]
  refine ⟨w4.1.1, (w4.gp hg).1, (s_MM_rule1 (d := d + 2) (co := 0) (tr := 1) ⟨by decide, by decide⟩ (Or.inr rfl) L4 hT3 (by rw [wkE]; exact he6) jN).mono (fun x5 M5 q5 => ?_)⟩
  obtain ⟨ex, T5, t1, t2, Rl⟩ := q5
  subst ex
  obtain ⟨c5, G5⟩ := c4.rl z4 (Nat.le_of_lt t1) Rl
  have L5 := c5.1
  have w5 := L5.2.1.1.1
  have iT : i32 (T : Int) := i32s (by omega) (by omega)
  refine ⟨iT, L5.1, (w5.gp hg).2.2.2.2.2.2.2.1.1, by rw [(w5.gp hg).2.2.2.2.2.2.2.1.2]; exact b60, fun M6 e6 => ?_⟩
  obtain ⟨c6, f6, a6, G6⟩ := c5.st (i := 24) iT (by omega) (by omega) (by decide) (by decide) e6
  have L6 := c6.1
  have w6 := L6.2.1.1.1
  rw [show mR M6 a 10 = g from L6.2.2.2.2.1, show mR M6 g 22 = g + 25 from (w6.gp hg).2.2.1.2.2.2.2.2.2.2.1]
  refine ⟨w6.1.1, (w6.gp hg).1, (w6.gp hg).2.2.2.2.2.2.2.2.1.1, by rw [(w6.gp hg).2.2.2.2.2.2.2.2.1.2]; exact b60, fun M7 e7 => ?_⟩
  obtain ⟨c7, f7, a7, G7⟩ := c6.st (i := 25) ⟨by decide, by decide⟩ (by omega) (by omega) (by decide) (by decide) e7
  have a75 : mI M7 a 16 = mI M5 a 16 := by rw [a7, a6]
  rw [show (j : Int) + 1 = ((j + 1 : Nat) : Int) by omega]
  by_cases z7 : mI M7 a 16 = 0
  · have z5 : mI M5 a 16 = 0 := by rw [← a75]; exact z7
    have r24 : mI M7 (g + 24) C = (T : Int) := by rw [f7, if_neg (fun z => by omega), f6, if_pos ⟨rfl, rfl⟩]
    have r25 : mI M7 (g + 25) C = 0 := by rw [f7, if_pos ⟨rfl, rfl⟩]
    have D4 := c4.2.2.2.2 z4
    have rt := ((rl_rt L4 c4.2.2.1.2.1 c4.2.2.1.2.2 D4 Rl z5).gn G6 D4.1.1).gn G7 D4.1.1
    refine s_ci_run h hC heN hg f (j + 1) T5 Z M7 c7 z7 ?_ hbr (by omega) (by omega)
    unfold Cc
    rw [r24, r25]
    exact ⟨rt, by decide, by decide, fun b hb => absurd hb (by omega)⟩
  · exact s_ci_end h hC c7 heN (fun y => absurd y z7) (i32s (by omega) (by omega)) (Or.inl z7)
end CO2
end
