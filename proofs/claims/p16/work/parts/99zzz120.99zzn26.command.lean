/-! The reference's commands, exactly. -/
section CXP
variable {w pl : Nat → Int} {sm : Nat → Nat → Prop} {N k e j p q b f mc : Nat} {nms : List nm9} {s : st9}
theorem brf_s (hq : clq w (p - 1) N = q) (hpe : ¬ e ≤ p) : brf w pl sm N nms e (f + 1) p b = if (brS w pl sm N nms b p q).1.1 ≠ 0 then (brS w pl sm N nms b p q).1 else brf w pl sm N nms e f ((brS w pl sm N nms b p q).2 + 1) (b + 1) := by
  rw [brf, if_neg hpe, hq]
  unfold brS
  by_cases c : b = 8
  · rw [if_pos c, if_pos c, if_pos (by simp)]
  · rw [if_neg c, if_neg c]
    unfold bsf
    by_cases c1 : (rf9 w pl sm nms 0 0 p q).1 ≠ 0
    · rw [if_pos c1, if_pos c1, if_pos c1]
    · rw [if_neg c1, if_neg c1]
      by_cases c2 : w (q + 1) = 10
      · rw [if_pos c2, if_pos c2, if_neg (by simp)]
      · rw [if_neg c2, if_neg c2]
theorem brf_e (hpe : e ≤ p) : brf w pl sm N nms e f p b = (0, 0) := by
  cases f with
  | zero => rfl
  | succ f => rw [brf, if_pos hpe]
theorem brs_s (hq : clq w (p - 1) N = q) (hpe : ¬ e ≤ p) (h0 : (brS w pl sm N nms b p q).1.1 = 0) : brs9 w pl sm N nms e (f + 1) p = brw w pl sm N nms p q :: brs9 w pl sm N nms e f ((brS w pl sm N nms b p q).2 + 1) := by
  rw [brs9, if_neg hpe, hq]
  unfold brS at h0 ⊢
  by_cases c : b = 8
  · rw [if_pos c] at h0
    exact absurd h0 (by simp)
  · rw [if_neg c] at h0 ⊢
    unfold bsf at h0 ⊢
    by_cases c1 : (rf9 w pl sm nms 0 0 p q).1 ≠ 0
    · rw [if_pos c1] at h0
      exact absurd h0 c1
    · rw [if_neg c1]
      unfold brw
      by_cases c2 : w (q + 1) = 10
      · rw [if_pos c2, if_pos c2, if_pos c2]
      · rw [if_neg c2, if_neg c2, if_neg c2]
theorem itc_many (h : s.2.1.2.2.1 = mc) : (itc w pl sm N mc k e s).2.2 = (5, pl k) := by
  unfold itc
  simp only []
  rw [if_pos h]
theorem itc_f (h : s.2.1.2.2.1 ≠ mc) (hr : nxq w 17 N (k + 1) = j) (h3 : (fst9 (rf9 w pl sm s.1 0 1 (k + 1) j) (brf w pl sm N s.1 e N (j + 1) 0)).1 ≠ 0) : (itc w pl sm N mc k e s).2.2 = fst9 (rf9 w pl sm s.1 0 1 (k + 1) j) (brf w pl sm N s.1 e N (j + 1) 0) := by
  unfold itc
  simp only [hr]
  rw [if_neg h, if_pos h3]
theorem itc_ok (h : s.2.1.2.2.1 ≠ mc) (hr : nxq w 17 N (k + 1) = j) (h3 : (fst9 (rf9 w pl sm s.1 0 1 (k + 1) j) (brf w pl sm N s.1 e N (j + 1) 0)).1 = 0) : itc w pl sm N mc k e s = (s.1, (s.2.1.1, s.2.1.2.1, s.2.1.2.2.1 + 1, s.2.1.2.2.2), (0, 0)) := by
  unfold itc
  simp only [hr]
  rw [if_neg h, if_neg (fun z => z h3)]
end CXP
section CXA
variable {G : mG} {d a g R W C T Z T2 Z2 N K : Nat} {M M2 M3 : mM} {E : Eg9} {tg : Int} {s s' : st9}
/-- a cell of the game's own is set: the names stay -/
theorem RSq.own {i : Nat} {v : Int} {nms : List nm9} (rs : RSq M2 a g K nms) (L2 : Lc M2 a g N T2 K) (hv : i32 v) (e : M3 = mUI M2 g i v) : RSq M3 a g K nms := by
  have hg := L2.2.2.2.2.2.1
  have w2 := L2.2.1.1.1
  have a0 := goff0 hg
  obtain ⟨m1, f1, l1⟩ := mv_cell hv L2.1 w2 (show a ≤ g by omega) ⟨a0.1, a0.2.1, a0.2.2.1⟩ e
  have no : ∀ q : Nat, False → q ∈ nums a := fun _ z => z.elim
  have aI1 := (m1.fld w2 no (by omega)).1
  have sx1 : SXq M2 a M3 := (iF.mk (g := g) w2 m1 (fun _ z => z.elim) (fun x z => Or.inr (Or.inl (by omega))) (fun i _ _ _ => by rw [aI1])).sx w2 hg
  refine rs.eq ((lst3.of m1 (fun _ _ z => z)).q K) ?_ ⟨by rw [l1], by rw [l1]⟩ sx1
  funext u
  unfold tn
  rw [show mI M3 (g + 18) = mI M2 (g + 18) from funext (fun x => by rw [f1, if_neg (fun z => by omega)]), show mI M3 (g + 14) = mI M2 (g + 14) from funext (fun x => by rw [f1, if_neg (fun z => by omega)])]
theorem x_ci_end0 {gm : gm9} {cm : cm9} {e : Nat} (eγ : E.2 = txg M a N s.1 gm) (h0 : Df M a g N T K R W C Z E tg) (hC : C < 60) (h : cI M a g N K R W C E tg T2 Z2 M2) (hc : mI M2 a 16 = 0 → Cc M2 g R W T2 E.1 Z2 C ∧ T2 ≤ e ∧ Z2 ≤ e ∧ RCw E.2 M2 g R W T2 E.1 Z2 C cm) (rs : mI M2 a 16 = 0 → RSq M2 a g K s.1) (flt : mI M2 a 16 ≠ 0 → s'.2.2.1 ≠ 0 ∧ fpw M2 a s'.2.2) (good : mI M2 a 16 = 0 → s' = (s.1, (W, R, C + 1, if tg = -1 then 0 else 1), (0, 0))) (e3 : M3 = mUI M2 g 18 ((C : Int) + 1)) : mOk M3 ∧ itX M a g N e s' (gm.1, gm.2.1, gm.2.2 ++ [cm]) M3 := by
  obtain ⟨hL, ⟨g6, g12, g18, g17⟩, -, hK, hD⟩ := h0
  have wM := hL.2.1.1.1
  obtain ⟨L2, I2, ⟨g2, q6, q12⟩, ⟨z30, z32, z34⟩, D2⟩ := h
  have hg := L2.2.2.2.2.2.1
  have hB := L2.2.2.2.2.2.2.1
  have w2 := L2.2.1.1.1
  have a0 := goff0 hg
  obtain ⟨m1, f1, l1⟩ := mv_cell (v := (C : Int) + 1) (i32s (by omega) (by omega)) L2.1 w2 (show a ≤ g by omega) ⟨a0.1, a0.2.1, a0.2.2.1⟩ e3
  have no : ∀ q : Nat, False → q ∈ nums a := fun _ z => z.elim
  have aI1 := (m1.fld w2 no (by omega)).1
  have n18 : ∀ i, i ≠ 18 → mI M3 g i = mI M2 g i := fun i hi => by rw [f1, if_neg (fun z => hi z.2)]
  have x18 : mI M3 g 18 = (C : Int) + 1 := by rw [f1, if_pos ⟨rfl, rfl⟩]
  have L3 : Lc M3 a g N T2 K := L2.mv m1 no (fun _ z => z.elim) (by rw [n18 6 (by omega)]; omega) (by rw [n18 12 (by omega)]; omega) (by rw [n18 6 (by omega), n18 12 (by omega)]; omega) (fun r _ => by rw [f1, if_neg (fun z => by omega)])
  have ss : ∀ {q}, q ∈ nums a → sameN M2 M3 q := fun hq => m1.lst hq (fun z => z)
  have I3 : iF M a g M3 := I2.trans (iF.mk w2 m1 (fun _ z => z.elim) (fun x z => Or.inr (Or.inl (by omega))) (fun i _ _ _ => by rw [aI1]))
  refine ⟨m1.1, I3, ?_⟩
  by_cases z : mI M3 a 16 = 0
  · have z2 : mI M2 a 16 = 0 := by rw [← aI1]; exact z
    obtain ⟨c1, c2, c3, c9⟩ := hc z2
    have G3 : Ge M2 g R W (C + 1) Z2 T2 M3 := ge_mv w2 hg m1 no (fun z => z) (fun z => z) (fun z => z) (fun i i1 i2 (z : g + i = g) => by omega) (fun n _ => ⟨(ss (tL_in (q := g + 1) hg (tLk1 g))).2.1 n, (ss (tL_in (q := g + 7) hg (tLk7 g))).2.1 n, (ss (tL_in (q := g + 9) hg (tLk9 g))).2.1 n, (ss (tL_in (q := g + 11) hg (tLk11 g))).2.1 n, (ss (tL_in (q := g + 3) hg (tLk3 g))).2.1 n⟩)
    have u1 := good z2
    exact Or.inr ⟨by rw [u1], z, T2, K, R, W, C + 1, Z2, (E.1, gWs E.2 E.2.2.2.2.2.2.1 (E.2.2.2.2.2.2.2.1, E.2.2.2.2.2.2.2.2.1, E.2.2.2.2.2.2.2.2.2 ++ [cm])), tg, ⟨L3, ⟨by rw [n18 6 (by omega)]; exact q6, by rw [n18 12 (by omega)]; exact q12, by rw [x18]; omega, by rw [n18 17 (by omega), g2]; exact g17⟩, ⟨by rw [(ss (n30 hg)).1]; exact z30, by rw [(ss (n32 hg)).1]; exact z32, by rw [(ss (n34 hg)).1]; exact z34⟩, hK, ((D2 z2).cu (E' := (E.1, gWs E.2 E.2.2.2.2.2.2.1 (E.2.2.2.2.2.2.2.1, E.2.2.2.2.2.2.2.2.1, E.2.2.2.2.2.2.2.2.2 ++ [cm]))) hC rfl ((D2 z2).2.2.2.2.2.2.2.cu c9) c1).ge G3⟩, ⟨c2, c3⟩, by rw [u1]; exact (rs z2).own L2 (i32s (by omega) (by omega)) e3, by rw [u1], by rw [u1, (I3.sx wM hg).tx9]; show gWs E.2 _ _ = _; rw [eγ]; rfl⟩
  · obtain ⟨u1, u2⟩ := flt (by rw [← aI1]; exact z)
    exact Or.inl ⟨u1, by rw [aI1]; exact u2.1, by rw [aI1]; exact u2.2⟩
theorem x_ci_end {gm : gm9} {cm : cm9} {e : Nat} {p : Int} (eγ : E.2 = txg M a N s.1 gm) (h0 : Df M a g N T K R W C Z E tg) (hC : C < 60) (h : cI M a g N K R W C E tg T2 Z2 M2) (heN : e < N) (hc : mI M2 a 16 = 0 → Cc M2 g R W T2 E.1 Z2 C ∧ T2 ≤ e + 1 ∧ Z2 ≤ e + 1 ∧ RCw E.2 M2 g R W T2 E.1 Z2 C cm) (rs : mI M2 a 16 = 0 → RSq M2 a g K s.1) (flt : mI M2 a 16 ≠ 0 → s'.2.2.1 ≠ 0 ∧ fpw M2 a s'.2.2) (good : mI M2 a 16 = 0 → s' = (s.1, (W, R, C + 1, if tg = -1 then 0 else 1), (0, 0))) (ip : i32 p) (hp : ¬ (mI M2 a 16 = 0) ∨ (e : Int) ≤ p) : h_MM_commandItem_116 G (d + 9) a e C p M2 (fun M' => mOk M' ∧ itX M a g N (e + 1) s' (gm.1, gm.2.1, gm.2.2 ++ [cm]) M') := by
  have L2 := h.1
  have hN := L2.2.1.1.2.2
  have hg := L2.2.2.2.2.2.1
  have w2 := L2.2.1.1.1
  refine k_MM_commandItem_116 L2.1 (i32s (by omega) (by omega)) (i32s (by omega) (by omega)) ip ⟨w2.1.1, fun _ => ?_, fun q => absurd hp q⟩
  rw [show mR M2 a 10 = g from L2.2.2.2.2.1]
  exact ⟨(w2.gp hg).1, i32s (by omega) (by omega), fun M3 e3 => x_ci_end0 eγ h0 hC h hc rs flt good e3⟩
theorem x_ci_run {gm : gm9} {e : Nat} (eγ : E.2 = txg M a N s.1 gm) (h0 : Df M a g N T K R W C Z E tg) (hC : C < 60) (heN : e < N) (hg : g = a + 13 ∨ g = a + 49) : ∀ (f f' p b T2 Z2 : Nat) (M2 : mM) (cm : cm9), RCw E.2 M2 g R W T2 E.1 Z2 C cm → 1 ≤ p → e < p + f' → cI M a g N K R W C E tg T2 Z2 M2 → RSq M2 a g K s.1 → mI M2 a 16 = 0 → Cc M2 g R W T2 E.1 Z2 C → mI M2 (g + 25) C = (b : Int) → Br (wk M a) f p e → T2 ≤ p → Z2 ≤ p → ((brf (wk M a) (nt M (a + 7)) (smx M a) N s.1 e f' p b).1 ≠ 0 → s'.2.2 = brf (wk M a) (nt M (a + 7)) (smx M a) N s.1 e f' p b) → ((brf (wk M a) (nt M (a + 7)) (smx M a) N s.1 e f' p b).1 = 0 → s' = (s.1, (W, R, C + 1, if tg = -1 then 0 else 1), (0, 0))) → h_MM_commandItem_116 G (d + 9) a e C p M2 (fun M' => mOk M' ∧ itX M a g N (e + 1) s' (gm.1, gm.2.1, gm.2.2 ++ [(cm.1, cm.2.1, cm.2.2.1, cm.2.2.2 ++ brs9 (wk M a) (nt M (a + 7)) (smx M a) N s.1 e f' p)]) M') := by
  have wM := h0.1.2.1.1.1
  intro f
  induction f with
  | zero => intro f' p b T2 Z2 M2 cm _ _ _ _ _ _ _ _ hb; exact hb.elim
  | succ f ih =>
    intro f' p b T2 Z2 M2 cm hw hp1 hf' h rs z2 hcc hb hbr hT hZ fr gd
    have L2 := h.1
    have hN := L2.2.1.1.2.2
    have w2 := L2.2.1.1.1
    obtain ⟨q, s9, h1, h2, h3, h4⟩ := hbr
    have p1 := h1.pr.1
    have p3 := h3.sg.1
    have hse : s9 ≤ e := by
      rcases h4 with ⟨y, -⟩ | ⟨-, y⟩
      · omega
      · have := y.sg.1; omega
    obtain ⟨f', rfl⟩ : ∃ f2, f' = f2 + 1 := ⟨f' - 1, by omega⟩
    have eq : clq (wk M a) (p - 1) N = q := clq_eo (by rw [show p - 1 + 1 = p by omega]; exact h1.six (by omega)) h2 (by omega)
    rw [brf_s eq (by omega)] at fr gd
    have eB := fun z => brs_s (pl := nt M (a + 7)) (sm := smx M a) (nms := s.1) (b := b) (f := f') (e := e) eq (show ¬ e ≤ p by omega) z
    generalize brs9 (wk M a) (nt M (a + 7)) (smx M a) N s.1 e (f' + 1) p = BL at eB ⊢
    refine k_MM_commandItem_116 L2.1 (i32s (by omega) (by omega)) (i32s (by omega) (by omega)) (i32s (by omega) (by omega)) ⟨w2.1.1, fun q => ?_, fun _ => ?_⟩
    · rcases q with q | q
      · exact absurd z2 q
      · omega
    refine (x_MM_branch0 (d := d) eγ hw wM h rs z2 hcc hb hC h1 h2 h3 (by omega) heN hT hZ).mono (fun x M3 t3 => ?_)
    obtain ⟨ix, o3, ⟨hx, T3, Z3, c3, k3⟩, sx⟩ := t3
    refine ⟨ix, o3, ?_⟩
    generalize brS (wk M a) (nt M (a + 7)) (smx M a) N s.1 b p q = S at fr gd sx eB
    rcases sx with ⟨u1, u2⟩ | ⟨u1, u2, u3, u4, u5, u9⟩
    · have z3 : mI M3 a 16 ≠ 0 := by rw [u2.1]; exact u1
      rw [if_pos u1] at fr
      have fr := fr u1
      exact x_ci_end (s := s) eγ h0 hC c3 heN (fun y => absurd y z3) (fun y => absurd y z3) (fun _ => by rw [fr]; exact ⟨u1, u2⟩) (fun y => absurd y z3) (i32s (by omega) (by omega)) (Or.inl z3)
    · obtain ⟨ex, t1, t2, cc⟩ := k3 u3
      subst ex
      rw [if_neg (fun z => z u1), u2] at fr gd
      rw [show (s9 : Int) + 1 = ((s9 + 1 : Nat) : Int) by omega]
      have w9 := u9 T3 Z3 c3
      have eB := eB u1
      rw [u2] at eB
      subst eB
      rcases h4 with ⟨y, -⟩ | ⟨-, y⟩
      · rw [brs_e (by omega)]
        exact x_ci_end eγ h0 hC c3 heN (fun _ => ⟨cc, by omega, by omega, w9⟩) (fun _ => u5) (fun z => absurd u3 z) (fun _ => gd (by rw [brf_e (by omega)])) (i32s (by omega) (by omega)) (Or.inr (by omega))
      · have key := ih f' (s9 + 1) (b + 1) T3 Z3 M3 _ w9 (by omega) (by omega) c3 u5 u3 cc (by rw [u4]; omega) y (by omega) (by omega) fr gd
        have el : (cmA cm (brw (wk M a) (nt M (a + 7)) (smx M a) N s.1 p q)).2.2.2 ++ brs9 (wk M a) (nt M (a + 7)) (smx M a) N s.1 e f' (s9 + 1) = cm.2.2.2 ++ brw (wk M a) (nt M (a + 7)) (smx M a) N s.1 p q :: brs9 (wk M a) (nt M (a + 7)) (smx M a) N s.1 e f' (s9 + 1) := by
          show (cm.2.2.2 ++ [_]) ++ _ = _
          rw [List.append_assoc]
          rfl
        rw [el] at key
        exact key
theorem x_MM_commandItem {gm : gm9} {k e j f : Nat} (eγ : E.2 = txg M a N s.1 gm) (h78 : wk M a k = 7 ∨ wk M a k = 8) (h : Df M a g N T K R W C Z E tg) (hS : RSq M a g K s.1) (hst : s.2.1 = (W, R, C, if tg = -1 then 0 else 1)) (h16 : mI M a 16 = 0) (he6 : Eo (wk M a) 6 (k + 1) j) (w17 : wk M a j = 17) (hbr : Br (wk M a) f (j + 1) e) (heN : e < N) (hT : T ≤ k) (hZ : Z ≤ k) : Cv G y_MM_commandItem (d + 10) [vr a, vi k, vi e] M (fun M' => mOk M' ∧ itX M a g N (e + 1) (itc (wk M a) (nt M (a + 7)) (smx M a) N 60 k e s) (gm.1, gm.2.1, gm.2.2 ++ [cmd9 (wk M a) (nt M (a + 7)) (smx M a) N s.1 k e]) M') := by
  generalize es : itc (wk M a) (nt M (a + 7)) (smx M a) N 60 k e s = s'
  have hL := h.1
  have hN := hL.2.1.1.2.2
  have hg := hL.2.2.2.2.2.1
  have w := hL.2.1.1.1
  have g18 := h.2.1.2.2.1
  have hBd := h.2.2.2.2.1
  have hlt := he6.pr.1
  have hbs := hbr.sg.1
  have ie : i32 (e : Int) := i32s (by omega) (by omega)
  have ik : i32 (k : Int) := i32s (by omega) (by omega)
  have kN : k < N := by omega
  have jN : j < N := by omega
  refine k_MM_commandItem hL.1 ik ie ⟨w.1.1, ?_⟩
  rw [show mR M a 10 = g from hL.2.2.2.2.1, g18, show (k : Int) + 1 = ((k + 1 : Nat) : Int) by omega]
  refine ⟨(w.gp hg).1, fun q => x_st_it (d := d + 8) (c := 5) (by decide) ⟨by decide, by decide⟩ hL kN (by rw [← es]; exact itc_many (by rw [hst]; show C = 60; omega)), fun q => ?_⟩
  have hC : C < 60 := by omega
  have n60 : s.2.1.2.2.1 ≠ 60 := by rw [hst]; show C ≠ 60; omega
  have har : nxq (wk M a) 17 N (k + 1) = j := nxq_at (by omega) (by omega) w17 (fun m m1 m2 => by
    have := rwd_all he6 m1 m2
    unfold rwd at this
    omega)
  have e1 := fun z => (itc_f (mc := 60) n60 har z).symm.trans (by rw [es])
  have e2 := fun z => es.symm.trans (itc_ok (mc := 60) n60 har z)
  rw [hst] at e2
  have b60 : ((0 : Int) ≤ (C : Int) ∧ (C : Int) < ((60 : Nat) : Int)) := by omega
  have hT3 : T + (j - (k + 1)) ≤ 30000 := by omega
  refine hL.ub (d := d + 7) (by omega) he6.pr.2.2.2.2.1 jN w17 (Or.inr (Or.inl rfl)) ⟨i32s (by omega) (by omega), hL.1, w.1.1, ?_⟩
  rw [show mR M a 10 = g from hL.2.2.2.2.1, show mR M g 19 = g + 22 from (w.gp hg).2.2.1.2.2.2.2.1]
  refine ⟨(w.gp hg).1, hL.wd (d := d + 8) kN (fun x hx ix => ⟨ix, hL.1, fun v hv => ⟨(w.gp hg).2.2.2.2.2.1.1, by rw [(w.gp hg).2.2.2.2.2.1.2]; exact b60, fun M2 e2' => ?_⟩⟩)⟩
  rw [Int.toNat_natCast] at e2' ⊢
  have iv : i32 v := by rw [hv]; split <;> exact ⟨by decide, by decide⟩
  obtain ⟨c2, f2, a2, G2⟩ := h.ci.st (i := 22) iv (by omega) (by omega) (by decide) (by decide) e2'
  have L2 := c2.1
  have w2 := L2.2.1.1.1
  rw [show mR M2 a 10 = g from L2.2.2.2.2.1, show mR M2 g 20 = g + 23 from (w2.gp hg).2.2.1.2.2.2.2.2.1]
  refine ⟨w2.1.1, (w2.gp hg).1, (s_MM_place0 (d := d + 8) L2.1 L2.2.1 kN).mono (fun y M3 h3 => ?_)⟩
  obtain ⟨e3, hy⟩ := h3
  subst e3
  have hy32 : i32 y := by rw [hy]; exact (L2.1 _ _).1
  refine ⟨hy32, L2.1, (w2.gp hg).2.2.2.2.2.2.1.1, by rw [(w2.gp hg).2.2.2.2.2.2.1.2]; exact b60, fun M4 e4 => ?_⟩
  obtain ⟨c4, f4, a4, G4⟩ := c2.st (i := 23) hy32 (by omega) (by omega) (by decide) (by decide) e4
  have L4 := c4.1
  have w4 := L4.2.1.1.1
  have wkE := c4.2.1.wk hg
  have z4 : mI M4 a 16 = 0 := by rw [a4, a2]; exact h16
  have rs4 : RSq M4 a g K s.1 := (hS.st (i := 22) hL iv (by omega) (by decide) (by decide) e2').st (i := 23) L2 hy32 (by omega) (by decide) (by decide) e4
  rw [show mR M4 a 10 = g from L4.2.2.2.2.1, show mR M4 g 21 = g + 24 from (w4.gp hg).2.2.1.2.2.2.2.2.2.1]
  refine ⟨w4.1.1, (w4.gp hg).1, (x_crule (d := d + 2) eγ c4 rs4 z4 w (Or.inr rfl) hT3 he6 jN).mono (fun x5 M5 q5 => ?_)⟩
  obtain ⟨ex, T5, t1, t2, Rl, hp, qx⟩ := q5
  subst ex
  obtain ⟨c5, G5⟩ := c4.rl z4 (Nat.le_of_lt t1) Rl hp
  have L5 := c5.1
  have w5 := L5.2.1.1.1
  have iT : i32 (T : Int) := i32s (by omega) (by omega)
  refine ⟨iT, L5.1, (w5.gp hg).2.2.2.2.2.2.2.1.1, by rw [(w5.gp hg).2.2.2.2.2.2.2.1.2]; exact b60, fun M6 e6 => ?_⟩
  obtain ⟨c6, f6, a6, G6⟩ := c5.st (i := 24) iT (by omega) (by omega) (by decide) (by decide) e6
  have L6 := c6.1
  have w6 := L6.2.1.1.1
  rw [show mR M6 a 10 = g from L6.2.2.2.2.1, show mR M6 g 22 = g + 25 from (w6.gp hg).2.2.1.2.2.2.2.2.2.2.1]
  refine ⟨w6.1.1, (w6.gp hg).1, (w6.gp hg).2.2.2.2.2.2.2.2.1.1, by rw [(w6.gp hg).2.2.2.2.2.2.2.2.1.2]; exact b60, fun M7 e7 => ?_⟩
  obtain ⟨c7, f7, a7, G7⟩ := c6.st (i := 25) ⟨by decide, by decide⟩ (by omega) (by omega) (by decide) (by decide) e7
  have aI7 : mI M7 a = mI M5 a := by rw [a7, a6]
  have a75 : mI M7 a 16 = mI M5 a 16 := by rw [a7, a6]
  have rs7 : RSq M5 a g K s.1 → RSq M7 a g K s.1 := fun r5 => (r5.st (i := 24) L5 iT (by omega) (by decide) (by decide) e6).st (i := 25) L6 ⟨by decide, by decide⟩ (by omega) (by decide) (by decide) e7
  rw [show (j : Int) + 1 = ((j + 1 : Nat) : Int) by omega]
  by_cases z7 : mI M7 a 16 = 0
  · have z5 : mI M5 a 16 = 0 := by rw [← a75]; exact z7
    have r24 : mI M7 (g + 24) C = (T : Int) := by rw [f7, if_neg (fun z => by omega), f6, if_pos ⟨rfl, rfl⟩]
    have r25 : mI M7 (g + 25) C = 0 := by rw [f7, if_pos ⟨rfl, rfl⟩]
    have D4 := c4.2.2.2.2 z4
    have rt := ((rl_rt L4 c4.2.2.1.2.1 c4.2.2.1.2.2 D4 Rl z5 (hp z5)).gn G6 D4.1.1).gn G7 D4.1.1
    obtain ⟨u1, -, u3, u9⟩ : (rf9 (wk M a) (nt M (a + 7)) (smx M a) s.1 0 1 (k + 1) j).1 = 0 ∧ mI M5 a 16 = 0 ∧ RSq M5 a g K s.1 ∧ Rtw E.2 M5 g R W T5 E.1 (T : Int) 1 (k + 1) j := by
      rcases qx with ⟨y1, y2⟩ | y
      · rw [y2.1] at z5; exact absurd z5 y1
      · exact y
    rw [fst9_r u1] at e1 e2
    have hin : ∀ q, rlP a g q → q ∈ nums a := fun q hq => rlP_in hg hq
    have cell : ∀ i, i ≤ 29 → frO (13 + i) → frO (49 + i) → mI M5 (g + i) = mI M4 (g + i) := fun i i1 o1 o2 => (Rl.1.cellL w4 hin (goffx hg o1 o2) (by omega)).1
    have r22 : mI M7 (g + 22) C = v := by rw [f7, if_neg (fun z => by omega), f6, if_neg (fun z => by omega), cell 22 (by omega) (by decide) (by decide), f4, if_neg (fun z => by omega), f2, if_pos ⟨rfl, rfl⟩]
    have r23 : mI M7 (g + 23) C = nt M (a + 7) k := by rw [f7, if_neg (fun z => by omega), f6, if_neg (fun z => by omega), cell 23 (by omega) (by decide) (by decide), f4, if_pos ⟨rfl, rfl⟩, hy, (c2.2.1.sx w hg).2.1]
    have w0 : RCw E.2 M7 g R W T5 E.1 Z C ((if wk M a k = 7 then 1 else 2), nt M (a + 7) k, (k + 1, j), []) := by
      unfold RCw
      rw [r22, r23, r24, r25]
      refine ⟨?_, rfl, (u9.gn G6 D4.1.1).gn G7 D4.1.1, ⟨rfl, by show (0 : Nat) ≤ 8; omega⟩, fun b x hb => absurd (show ([] : List br9)[b]? = some x from hb) (by simp)⟩
      rcases h78 with y7 | y7
      · refine Or.inl ⟨if_pos y7, ?_⟩
        rw [hv, if_neg (by omega)]
      · refine Or.inr ⟨if_neg (by omega), ?_⟩
        rw [hv, if_pos (by omega)]
        decide
    have ec : cmd9 (wk M a) (nt M (a + 7)) (smx M a) N s.1 k e = ((if wk M a k = 7 then 1 else 2), nt M (a + 7) k, (k + 1, j), [] ++ brs9 (wk M a) (nt M (a + 7)) (smx M a) N s.1 e N (j + 1)) := by
      unfold cmd9
      rw [har]
      rfl
    rw [ec]
    refine x_ci_run eγ h hC heN hg f N (j + 1) 0 T5 Z M7 _ w0 (by omega) (by omega) c7 (rs7 u3) z7 ?_ r25 hbr (by omega) (by omega) (fun z => (e1 z).symm) e2
    unfold Cc
    rw [r24, r25]
    exact ⟨rt, by decide, by decide, fun b hb => absurd hb (by omega)⟩
  · refine x_ci_end (s := s) eγ h hC c7 heN (fun y => absurd y z7) (fun y => absurd y z7) (fun _ => ?_) (fun y => absurd y z7) (i32s (by omega) (by omega)) (Or.inl z7)
    rcases qx with ⟨y1, y2⟩ | ⟨-, y, -, -⟩
    · rw [fst9_l y1] at e1
      rw [← e1 y1]
      exact ⟨y1, by rw [aI7]; exact y2.1, by rw [aI7]; exact y2.2⟩
    · rw [a75] at z7; exact absurd y z7
end CXA
