/-! The reference: commandItem, to its end. -/
section CO2
variable {G : mG} {d a g R W C T Z N K : Nat} {M : mM} {E : Nat → Nat} {tg : Int}
theorem s_MM_commandItem {k e j f : Nat} (h : Df M a g N T K R W C Z E tg) (h16 : mI M a 16 = 0) (he6 : Eo (wk M a) 6 (k + 1) j) (w17 : wk M a j = 17) (hbr : Br (wk M a) f (j + 1) e) (heN : e < N) (hT : T ≤ k) (hZ : Z ≤ k) : Cv G y_MM_commandItem (d + 10) [vr a, vi k, vi e] M (fun M' => mOk M' ∧ itQ M a g N (e + 1) M') := by
  have hL := h.1
  have hN := hL.2.1.1.2.2
  have hg := hL.2.2.2.2.2.1
  have w := hL.2.1.1.1
  have g18 := h.2.1.2.2.1
  have hBd := h.2.2.2.2.1
  have hlt := he6.pr.1
  have hbs := hbr.sg.1
  have ie : i32 (e : Int) := i32s (by omega) (by omega)
  have ik : i32 (k : Int) := i32s (by omega) (by omega)
  have kN : k < N := by omega
  have jN : j < N := by omega
  refine k_MM_commandItem hL.1 ik ie ⟨w.1.1, ?_⟩
  rw [show mR M a 10 = g from hL.2.2.2.2.1, g18, show (k : Int) + 1 = ((k + 1 : Nat) : Int) by omega]
  refine ⟨(w.gp hg).1, fun q => s_st_it (d := d + 8) (c := 5) (by decide) ⟨by decide, by decide⟩ hL kN, fun q => ?_⟩
  have hC : C < 60 := by omega
  have b60 : ((0 : Int) ≤ (C : Int) ∧ (C : Int) < ((60 : Nat) : Int)) := by omega
  have hT3 : T + (j - (k + 1)) ≤ 30000 := by omega
  refine hL.ub (d := d + 7) (by omega) he6.pr.2.2.2.2.1 jN w17 (Or.inr (Or.inl rfl)) ⟨i32s (by omega) (by omega), hL.1, w.1.1, ?_⟩
  rw [show mR M a 10 = g from hL.2.2.2.2.1, show mR M g 19 = g + 22 from (w.gp hg).2.2.1.2.2.2.2.1]
  refine ⟨(w.gp hg).1, hL.wd (d := d + 8) kN (fun x hx ix => ⟨ix, hL.1, fun v hv => ⟨(w.gp hg).2.2.2.2.2.1.1, by rw [(w.gp hg).2.2.2.2.2.1.2]; exact b60, fun M2 e2 => ?_⟩⟩)⟩
  rw [Int.toNat_natCast] at e2 ⊢
  have iv : i32 v := by rw [hv]; split <;> exact ⟨by decide, by decide⟩
  obtain ⟨c2, f2, a2, G2⟩ := h.ci.st (i := 22) iv (by omega) (by omega) (by decide) (by decide) e2
  have L2 := c2.1
  have w2 := L2.2.1.1.1
  rw [show mR M2 a 10 = g from L2.2.2.2.2.1, show mR M2 g 20 = g + 23 from (w2.gp hg).2.2.1.2.2.2.2.2.1]
  refine ⟨w2.1.1, (w2.gp hg).1, (s_MM_place0 (d := d + 8) L2.1 L2.2.1 kN).mono (fun y M3 h3 => ?_)⟩
  obtain ⟨e3, hy⟩ := h3
  subst e3
  have hy32 : i32 y := by rw [hy]; exact (L2.1 _ _).1
  refine ⟨hy32, L2.1, (w2.gp hg).2.2.2.2.2.2.1.1, by rw [(w2.gp hg).2.2.2.2.2.2.1.2]; exact b60, fun M4 e4 => ?_⟩
  obtain ⟨c4, f4, a4, G4⟩ := c2.st (i := 23) hy32 (by omega) (by omega) (by decide) (by decide) e4
  have L4 := c4.1
  have w4 := L4.2.1.1.1
  have wkE := c4.2.1.wk hg
  have z4 : mI M4 a 16 = 0 := by rw [a4, a2]; exact h16
  rw [show mR M4 a 10 = g from L4.2.2.2.2.1, show mR M4 g 21 = g + 24 from (w4.gp hg).2.2.1.2.2.2.2.2.2.1]
  refine ⟨w4.1.1, (w4.gp hg).1, (s_MM_rule1 (d := d + 2) (co := 0) (tr := 1) ⟨by decide, by decide⟩ (Or.inr rfl) L4 hT3 (by rw [wkE]; exact he6) jN).mono (fun x5 M5 q5 => ?_)⟩
  obtain ⟨ex, T5, t1, t2, Rl⟩ := q5
  subst ex
  obtain ⟨c5, G5⟩ := c4.rl z4 (Nat.le_of_lt t1) Rl
  have L5 := c5.1
  have w5 := L5.2.1.1.1
  have iT : i32 (T : Int) := i32s (by omega) (by omega)
  refine ⟨iT, L5.1, (w5.gp hg).2.2.2.2.2.2.2.1.1, by rw [(w5.gp hg).2.2.2.2.2.2.2.1.2]; exact b60, fun M6 e6 => ?_⟩
  obtain ⟨c6, f6, a6, G6⟩ := c5.st (i := 24) iT (by omega) (by omega) (by decide) (by decide) e6
  have L6 := c6.1
  have w6 := L6.2.1.1.1
  rw [show mR M6 a 10 = g from L6.2.2.2.2.1, show mR M6 g 22 = g + 25 from (w6.gp hg).2.2.1.2.2.2.2.2.2.2.1]
  refine ⟨w6.1.1, (w6.gp hg).1, (w6.gp hg).2.2.2.2.2.2.2.2.1.1, by rw [(w6.gp hg).2.2.2.2.2.2.2.2.1.2]; exact b60, fun M7 e7 => ?_⟩
  obtain ⟨c7, f7, a7, G7⟩ := c6.st (i := 25) ⟨by decide, by decide⟩ (by omega) (by omega) (by decide) (by decide) e7
  have a75 : mI M7 a 16 = mI M5 a 16 := by rw [a7, a6]
  rw [show (j : Int) + 1 = ((j + 1 : Nat) : Int) by omega]
  by_cases z7 : mI M7 a 16 = 0
  · have z5 : mI M5 a 16 = 0 := by rw [← a75]; exact z7
    have r24 : mI M7 (g + 24) C = (T : Int) := by rw [f7, if_neg (fun z => by omega), f6, if_pos ⟨rfl, rfl⟩]
    have r25 : mI M7 (g + 25) C = 0 := by rw [f7, if_pos ⟨rfl, rfl⟩]
    have D4 := c4.2.2.2.2 z4
    have rt := ((rl_rt L4 c4.2.2.1.2.1 c4.2.2.1.2.2 D4 Rl z5).gn G6 D4.1.1).gn G7 D4.1.1
    refine s_ci_run h hC heN hg f (j + 1) T5 Z M7 c7 z7 ?_ hbr (by omega) (by omega)
    unfold Cc
    rw [r24, r25]
    exact ⟨rt, by decide, by decide, fun b hb => absurd hb (by omega)⟩
  · exact s_ci_end h hC c7 heN (fun y => absurd y z7) (i32s (by omega) (by omega)) (Or.inl z7)
end CO2
