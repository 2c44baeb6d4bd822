/-! The reference's branches, exactly. -/
/-- one branch: its fault, and where it ends -/
noncomputable def bsf (w pl : Nat → Int) (sm : Nat → Nat → Prop) (N : Nat) (nms : List nm9) (p q : Nat) : (Int × Int) × Nat := if (rf9 w pl sm nms 0 0 p q).1 ≠ 0 then (rf9 w pl sm nms 0 0 p q, 0) else if w (q + 1) = 10 then ((0, 0), q + 2) else sef w pl sm N nms N (q + 1) []
noncomputable def brS (w pl : Nat → Int) (sm : Nat → Nat → Prop) (N : Nat) (nms : List nm9) (b p q : Nat) : (Int × Int) × Nat := if b = 8 then ((5, pl p), 0) else bsf w pl sm N nms p q
/-- a branch in pure words -/
noncomputable def brw (w pl : Nat → Int) (sm : Nat → Nat → Prop) (N : Nat) (nms : List nm9) (p q : Nat) : br9 := (pl p, (p, q), if w (q + 1) = 10 then [] else sel9 w sm N nms N (q + 1))
/-- one branch more -/
def cmA (cm : cm9) (br : br9) : cm9 := (cm.1, cm.2.1, cm.2.2.1, cm.2.2.2 ++ [br])
/-- a branch that is being read -/
def RBp (γ : gW9) (M : mM) (g R W T : Nat) (Er : Nat → Nat) (Z0 Z x : Nat) (br : br9) : Prop := mI M (g + 27) x = br.1 ∧ Rtw γ M g R W T Er (mI M (g + 26) x) 0 br.2.1.1 br.2.1.2 ∧ Z = Z0 + br.2.2.length ∧ ∀ (i : Nat) (q : Nat × Nat × Nat × Nat), br.2.2[i]? = some q → RSs γ M g R W T Er (Z0 + i) q
section RBX
variable {a g R W C T2 T3 Z2 Z0 N K b x z : Nat} {M M2 M3 M4 M5 M6 : mM} {Er : Nat → Nat} {γ : gW9} {q : Nat × Nat × Nat × Nat} {br : br9} {cm : cm9} {tg : Int} {E : Eg9}
/-- the sets' lists are the same below Z -/
def lsZ (M : mM) (g Z : Nat) (M' : mM) : Prop := ∀ z, z < Z → nt M' (g + 30) z = nt M (g + 30) z ∧ nt M' (g + 34) z = nt M (g + 34) z ∧ nt M' (g + 32) z = nt M (g + 32) z
theorem lsZ.trans (h : lsZ M g Z2 M2) (k : lsZ M2 g Z2 M3) : lsZ M g Z2 M3 := fun z hz => ⟨(k z hz).1.trans (h z hz).1, (k z hz).2.1.trans (h z hz).2.1, (k z hz).2.2.trans (h z hz).2.2⟩
theorem lsZ.st {i j : Nat} {v : Int} (L2 : Lc M2 a g N T2 K) (hv : i32 v) (hi : 22 ≤ i ∧ i ≤ 29) (f1 : frO (13 + i)) (f2 : frO (49 + i)) (e : M3 = mUI M2 (g + i) j v) : lsZ M2 g Z2 M3 := by
  obtain ⟨-, -, -, m3, -, -⟩ := gsti L2 hv (by omega) f1 f2 (fun z => by omega) e
  have hg := L2.2.2.2.2.2.1
  exact fun z _ => ⟨(m3.lst (n30 hg) (fun z => z)).2.1 z, (m3.lst (n34 hg) (fun z => z)).2.1 z, (m3.lst (n32 hg) (fun z => z)).2.1 z⟩
theorem RSs.cg (h : RSs γ M2 g R W T2 Er z q) (k : Gn M2 g R W T2 M3) (hR : R ≤ 60) (hz : z < Z2) (hl : lsZ M2 g Z2 M3) : RSs γ M3 g R W T2 Er z q := by
  obtain ⟨q1, q2, q3, q4⟩ := h
  obtain ⟨l1, l2, l3⟩ := hl z hz
  unfold RSs
  rw [l1, l2, l3, k.tv (by omega) (by omega)]
  exact ⟨q1, q2, q3, q4.gn k hR⟩
theorem RSs.up (h : RSs γ M2 g R W T2 Er z q) (hT : T2 ≤ T3) : RSs γ M2 g R W T3 Er z q := ⟨h.1, h.2.1, h.2.2.1, h.2.2.2.up (Nat.le_refl _) (Nat.le_refl _) hT (fun _ _ => rfl)⟩
theorem RBw.cg (h : RBw γ M2 g R W T2 Er Z2 x br) (k : Gn M2 g R W T2 M3) (hR : R ≤ 60) (hl : lsZ M2 g Z2 M3) (hc : mI M3 (g + 26) x = mI M2 (g + 26) x ∧ mI M3 (g + 27) x = mI M2 (g + 27) x ∧ mI M3 (g + 28) x = mI M2 (g + 28) x ∧ mI M3 (g + 29) x = mI M2 (g + 29) x) : RBw γ M3 g R W T2 Er Z2 x br := by
  obtain ⟨h1, h2, h3, fs, h4, h5, h6⟩ := h
  obtain ⟨e1, e2, e3, e4⟩ := hc
  unfold RBw
  rw [e1, e2, e3, e4]
  exact ⟨h1, h2.gn k hR, h3, fs, h4, h5, fun i q hq => RSs.cg (h6 i q hq) k hR (by have := (List.getElem?_eq_some_iff.mp hq).1; omega) hl⟩
theorem RBp.cg (h : RBp γ M2 g R W T2 Er Z0 Z2 x br) (k : Gn M2 g R W T2 M3) (hR : R ≤ 60) (hl : lsZ M2 g Z2 M3) (hc : mI M3 (g + 26) x = mI M2 (g + 26) x ∧ mI M3 (g + 27) x = mI M2 (g + 27) x) (hT : T2 ≤ T3) : RBp γ M3 g R W T3 Er Z0 Z2 x br := by
  obtain ⟨h1, h2, h3, h4⟩ := h
  unfold RBp
  rw [hc.1, hc.2]
  exact ⟨h1, (h2.gn k hR).up (Nat.le_refl _) (Nat.le_refl _) hT (fun _ _ => rfl), h3, fun i q hq => (RSs.cg (h4 i q hq) k hR (by have := (List.getElem?_eq_some_iff.mp hq).1; omega) hl).up hT⟩
theorem RBp.add {p0 : Int} {ij : Nat × Nat} {ss : List (Nat × Nat × Nat × Nat)} (h : RBp γ M3 g R W T3 Er Z0 Z2 x (p0, ij, ss)) (hq : RSs γ M3 g R W T3 Er Z2 q) : RBp γ M3 g R W T3 Er Z0 (Z2 + 1) x (p0, ij, ss ++ [q]) := by
  obtain ⟨h1, h2, h3, h4⟩ := h
  have h3 : Z2 = Z0 + ss.length := h3
  refine ⟨h1, h2, by show Z2 + 1 = Z0 + (ss ++ [q]).length; rw [List.length_append, h3]; rfl, fun i q' hq' => ?_⟩
  have hq' : (ss ++ [q])[i]? = some q' := hq'
  by_cases c : i < ss.length
  · rw [List.getElem?_append_left c] at hq'
    exact h4 i q' hq'
  · have hl := (List.getElem?_eq_some_iff.mp hq').1
    rw [List.length_append] at hl
    have ei : i = ss.length := by simp at hl; omega
    subst ei
    rw [List.getElem?_append_right (by omega), Nat.sub_self] at hq'
    have : q = q' := Option.some.inj hq'
    rw [← this, ← h3]
    exact hq
theorem RBp.fin (h : RBp γ M3 g R W T3 Er Z0 Z2 x br) (h28 : mI M3 (g + 28) x = (Z0 : Int)) (h29 : mI M3 (g + 29) x = (Z2 : Int) - Z0) : RBw γ M3 g R W T3 Er Z2 x br := by
  obtain ⟨h1, h2, h3, h4⟩ := h
  exact ⟨h1, h2, by rw [h29, h3]; omega, Z0, h28, by omega, h4⟩
theorem RCw.cg (h : RCw γ M2 g R W T2 Er Z2 C cm) (k : Gn M2 g R W T2 M3) (hR : R ≤ 60) (hl : lsZ M2 g Z2 M3) (c22 : mI M3 (g + 22) C = mI M2 (g + 22) C) (c23 : mI M3 (g + 23) C = mI M2 (g + 23) C) (c24 : mI M3 (g + 24) C = mI M2 (g + 24) C) (c25 : mI M3 (g + 25) C = mI M2 (g + 25) C) (cb : ∀ b' : Nat, b' < cm.2.2.2.length → mI M3 (g + 26) (8 * C + b') = mI M2 (g + 26) (8 * C + b') ∧ mI M3 (g + 27) (8 * C + b') = mI M2 (g + 27) (8 * C + b') ∧ mI M3 (g + 28) (8 * C + b') = mI M2 (g + 28) (8 * C + b') ∧ mI M3 (g + 29) (8 * C + b') = mI M2 (g + 29) (8 * C + b')) : RCw γ M3 g R W T2 Er Z2 C cm := by
  obtain ⟨h1, h2, h3, h4, h5⟩ := h
  unfold RCw
  rw [c22, c23, c24, c25]
  exact ⟨h1, h2, h3.gn k hR, h4, fun b' y hb' => (h5 b' y hb').cg k hR hl (cb b' (List.getElem?_eq_some_iff.mp hb').1)⟩
theorem RCw.app (h : RCw γ M2 g R W T2 Er Z2 C cm) (k : Gn M2 g R W T2 M3) (hR : R ≤ 60) (hl : lsZ M2 g Z2 M3) (c22 : mI M3 (g + 22) C = mI M2 (g + 22) C) (c23 : mI M3 (g + 23) C = mI M2 (g + 23) C) (c24 : mI M3 (g + 24) C = mI M2 (g + 24) C) (hb : cm.2.2.2.length = b) (hb8 : b < 8) (c25 : mI M3 (g + 25) C = (b : Int) + 1) (cb : ∀ b' : Nat, b' < b → mI M3 (g + 26) (8 * C + b') = mI M2 (g + 26) (8 * C + b') ∧ mI M3 (g + 27) (8 * C + b') = mI M2 (g + 27) (8 * C + b') ∧ mI M3 (g + 28) (8 * C + b') = mI M2 (g + 28) (8 * C + b') ∧ mI M3 (g + 29) (8 * C + b') = mI M2 (g + 29) (8 * C + b')) (hn : RBw γ M3 g R W T2 Er Z2 (8 * C + b) br) : RCw γ M3 g R W T2 Er Z2 C (cmA cm br) := by
  obtain ⟨h1, h2, h3, h4, h5⟩ := h
  have ln : (cm.2.2.2 ++ [br]).length = b + 1 := by rw [List.length_append, hb]; rfl
  unfold RCw
  rw [c22, c23, c24, c25]
  refine ⟨h1, h2, h3.gn k hR, ⟨by show (b : Int) + 1 = (((cm.2.2.2 ++ [br]).length : Nat) : Int); rw [ln]; omega, by show (cm.2.2.2 ++ [br]).length ≤ 8; rw [ln]; omega⟩, fun b' y hb' => ?_⟩
  have hb' : (cm.2.2.2 ++ [br])[b']? = some y := hb'
  by_cases c : b' < b
  · rw [List.getElem?_append_left (by omega)] at hb'
    exact (h5 b' y hb').cg k hR hl (cb b' c)
  · have hl := (List.getElem?_eq_some_iff.mp hb').1
    have ei : b' = b := by omega
    subst ei
    rw [List.getElem?_append_right (by omega), hb, Nat.sub_self] at hb'
    have : br = y := Option.some.inj hb'
    rw [← this]
    exact hn
theorem RCw.len (h : RCw γ M2 g R W T2 Er Z2 C cm) (hb : mI M2 (g + 25) C = (b : Int)) : cm.2.2.2.length = b := by
  have := h.2.2.2.1.1
  omega
/-- the game's sizes are told by its lists -/
theorem cI.un {Z3 : Nat} (h : cI M a g N K R W C E tg T2 Z2 M3) (k : cI M a g N K R W C E tg T3 Z3 M3) : T3 = T2 ∧ Z3 = Z2 := by
  have q1 := h.1.2.2.2.1 (g + 1) (by omega)
  have q2 := k.1.2.2.2.1 (g + 1) (by omega)
  have q3 := h.2.2.2.1.1
  have q4 := k.2.2.2.1.1
  omega
/-- the branch's end, in pure words -/
theorem br_endw (hC : C < 60) (hb : b < 8) (h : bI M a g N K R W C E tg b Z0 T2 Z2 M2) (z2 : mI M2 a 16 = 0) (hZ : Z2 ≤ 16385) (hw : RCw E.2 M2 g R W T2 E.1 Z2 C cm) (hB : RBp E.2 M2 g R W T2 E.1 Z0 Z2 (8 * C + b) br) (e3 : M3 = mUI M2 (g + 29) (8 * C + b) ((Z2 : Int) - Z0)) (e4 : M4 = mUI M3 (g + 25) C ((b : Int) + 1)) : ∀ T3 Z3, cI M a g N K R W C E tg T3 Z3 M4 → RCw E.2 M4 g R W T3 E.1 Z3 C (cmA cm br) := by
  obtain ⟨c2, q28, hZ0, q25, hc⟩ := h
  have L2 := c2.1
  have l3 := lsZ.st (Z2 := Z2) (i := 29) L2 (i32s (by omega) (by omega)) (by omega) (by decide) (by decide) e3
  obtain ⟨c3, f3, a3, G3⟩ := c2.st (i := 29) (i32s (by omega) (by omega)) (by omega) (by omega) (by decide) (by decide) e3
  have l4 := lsZ.st (Z2 := Z2) (i := 25) c3.1 (i32s (by omega) (by omega)) (by omega) (by decide) (by decide) e4
  obtain ⟨c4, f4, a4, G4⟩ := c3.st (i := 25) (i32s (by omega) (by omega)) (by omega) (by omega) (by decide) (by decide) e4
  have G24 := G3.trans G4
  have hR := (c2.2.2.2.2 z2).1.1
  have hl := l3.trans l4
  have cell : ∀ i x, i ≠ 25 → i ≠ 29 → mI M4 (g + i) x = mI M2 (g + i) x := fun i x h1 h2 => by rw [f4, if_neg (fun z => by omega), f3, if_neg (fun z => by omega)]
  intro T3 Z3 k
  obtain ⟨e1, e2⟩ := c4.un k
  subst e1 e2
  have r25 : mI M4 (g + 25) C = (b : Int) + 1 := by rw [f4, if_pos ⟨rfl, rfl⟩]
  have r29 : mI M4 (g + 29) (8 * C + b) = (Z3 : Int) - Z0 := by rw [f4, if_neg (fun z => by omega), f3, if_pos ⟨rfl, rfl⟩]
  have hlen := hw.len q25
  refine hw.app G24 hR hl (cell 22 C (by omega) (by omega)) (cell 23 C (by omega) (by omega)) (cell 24 C (by omega) (by omega)) hlen hb r25 (fun b' hb' => ⟨cell 26 _ (by omega) (by omega), cell 27 _ (by omega) (by omega), cell 28 _ (by omega) (by omega), ?_⟩) (RBp.fin ?_ (by rw [cell 28 _ (by omega) (by omega)]; exact q28) r29)
  · rw [f4, if_neg (fun z => by omega), f3, if_neg (fun z => by omega)]
  · exact hB.cg G24 hR hl ⟨cell 26 _ (by omega) (by omega), cell 27 _ (by omega) (by omega)⟩ (Nat.le_refl _)
/-- after a set -/
theorem br_siw {p0 : Int} {ij : Nat × Nat} {ss : List (Nat × Nat × Nat × Nat)} (hR : R ≤ 60) (hw : RCw E.2 M2 g R W T2 E.1 Z2 C cm) (hB : RBp E.2 M2 g R W T2 E.1 Z0 Z2 (8 * C + b) (p0, ij, ss)) (hb : b < 8) (hT : T2 ≤ T3) (G3 : Ge M2 g R W (C + 1) Z2 T2 M3) (hq : RSs E.2 M3 g R W T3 E.1 Z2 q) : RCw E.2 M3 g R W T3 E.1 (Z2 + 1) C cm ∧ RBp E.2 M3 g R W T3 E.1 Z0 (Z2 + 1) (8 * C + b) (p0, ij, ss ++ [q]) := by
  refine ⟨?_, RBp.add (hB.cg G3.1 hR (fun z hz => G3.2.2.2.2 z hz) ?_ hT) hq⟩
  · obtain ⟨h1, h2, h3, h4, h5⟩ := hw
    obtain ⟨e1, e2, e3⟩ := G3.2.2.2.1 C (by omega)
    obtain ⟨-, -, -, -, e4, e5⟩ := e3 0 (by omega)
    refine RCw.up (T := T2) (Z := Z2) ?_ (Nat.le_refl _) (Nat.le_refl _) hT (Nat.le_succ _) (fun _ _ => rfl)
    refine RCw.cg ⟨h1, h2, h3, h4, h5⟩ G3.1 hR (fun z hz => G3.2.2.2.2 z hz) e4 e5 e1 e2 (fun b' hb' => ?_)
    obtain ⟨k1, k2, k3, k4, -⟩ := e3 b' (by omega)
    exact ⟨k1, k4, k2, k3⟩
  · obtain ⟨k1, k2, k3, k4, -⟩ := (G3.2.2.2.1 C (by omega)).2.2 b hb
    exact ⟨k1, k4⟩
/-- a branch begins -/
theorem br_putw {i j : Nat} {pl : Int} (h : cI M a g N K R W C E tg T2 Z2 M2) (z2 : mI M2 a 16 = 0) (hb : mI M2 (g + 25) C = (b : Int)) (hb8 : b < 8) (hZ : Z2 ≤ 16385) (hT2 : T2 ≤ 16385) (t1 : T2 ≤ T3) (ip : i32 pl) (Rl : rlR 0 M2 a g N T2 K T3 0 M3) (hp : mI M3 a 16 = 0 → ∀ n, n < T2 → pm M3 g n = pm M2 g n) (z3 : mI M3 a 16 = 0) (hw : RCw E.2 M2 g R W T2 E.1 Z2 C cm) (hr : Rtw E.2 M3 g R W T3 E.1 (T2 : Int) 0 i j) (e4 : M4 = mUI M3 (g + 26) (8 * C + b) (T2 : Int)) (e5 : M5 = mUI M4 (g + 27) (8 * C + b) pl) (e6 : M6 = mUI M5 (g + 28) (8 * C + b) (Z2 : Int)) : RCw E.2 M6 g R W T3 E.1 Z2 C cm ∧ RBp E.2 M6 g R W T3 E.1 Z2 Z2 (8 * C + b) (pl, (i, j), []) := by
  obtain ⟨c3, G3⟩ := h.rl z2 t1 Rl hp
  have G3 := G3 z3
  have D2 := h.2.2.2.2 z2
  have hR := D2.1.1
  have l4 := lsZ.st (Z2 := Z2) (i := 26) c3.1 (i32s (by omega) (by omega)) (by omega) (by decide) (by decide) e4
  obtain ⟨c4, f4, a4, G4⟩ := c3.st (i := 26) (i32s (by omega) (by omega)) (by omega) (by omega) (by decide) (by decide) e4
  have l5 := lsZ.st (Z2 := Z2) (i := 27) c4.1 ip (by omega) (by decide) (by decide) e5
  obtain ⟨c5, f5, a5, G5⟩ := c4.st (i := 27) ip (by omega) (by omega) (by decide) (by decide) e5
  have l6 := lsZ.st (Z2 := Z2) (i := 28) c5.1 (i32s (by omega) (by omega)) (by omega) (by decide) (by decide) e6
  obtain ⟨c6, f6, a6, G6⟩ := c5.st (i := 28) (i32s (by omega) (by omega)) (by omega) (by omega) (by decide) (by decide) e6
  have G36 := (G4.trans G5).trans G6
  have l36 := (l4.trans l5).trans l6
  have hlen := hw.len hb
  have hw3 : RCw E.2 M3 g R W T3 E.1 Z2 C cm := by
    obtain ⟨e1, e2, e3⟩ := G3.2.2.2.1 C (by omega)
    obtain ⟨-, -, -, -, q4, q5⟩ := e3 0 (by omega)
    refine RCw.up (T := T2) (Z := Z2) ?_ (Nat.le_refl _) (Nat.le_refl _) t1 (Nat.le_refl _) (fun _ _ => rfl)
    refine hw.cg G3.1 hR (fun z hz => G3.2.2.2.2 z hz) q4 q5 e1 e2 (fun b' hb' => ?_)
    obtain ⟨k1, k2, k3, k4, -⟩ := e3 b' (by omega)
    exact ⟨k1, k4, k2, k3⟩
  have cell : ∀ i x, (i < 26 ∨ i = 29 ∨ x ≠ 8 * C + b) → mI M6 (g + i) x = mI M3 (g + i) x := fun i x hi => by rw [f6, if_neg (fun z => by omega), f5, if_neg (fun z => by omega), f4, if_neg (fun z => by omega)]
  have v26 : mI M6 (g + 26) (8 * C + b) = (T2 : Int) := by rw [f6, if_neg (fun z => by omega), f5, if_neg (fun z => by omega), f4, if_pos ⟨rfl, rfl⟩]
  have v27 : mI M6 (g + 27) (8 * C + b) = pl := by rw [f6, if_neg (fun z => by omega), f5, if_pos ⟨rfl, rfl⟩]
  refine ⟨hw3.cg G36 hR l36 (cell 22 C (by omega)) (cell 23 C (by omega)) (cell 24 C (by omega)) (cell 25 C (by omega)) (fun b' hb' => ⟨cell 26 _ (by omega), cell 27 _ (by omega), cell 28 _ (by omega), cell 29 _ (by omega)⟩), v27, ?_, rfl, fun i q hq => absurd (show ([] : List (Nat × Nat × Nat × Nat))[i]? = some q from hq) (by simp)⟩
  rw [v26]
  exact hr.gn G36 hR
end RBX
section BRX
variable {G : mG} {d a g R W C T2 T3 Z2 N K : Nat} {M M2 M3 : mM} {E : Eg9} {tg : Int} {nms : List nm9}
theorem RSq.st {i j : Nat} {v : Int} (rs : RSq M2 a g K nms) (L2 : Lc M2 a g N T2 K) (hv : i32 v) (hi : 22 ≤ i ∧ i ≤ 29) (f1 : frO (13 + i)) (f2 : frO (49 + i)) (e : M3 = mUI M2 (g + i) j v) : RSq M3 a g K nms := by
  obtain ⟨L3, I3, -, m3, f3, l3⟩ := gsti L2 hv (by omega) f1 f2 (fun z => by omega) e
  refine rs.eq ((lst3.of m3 (fun _ _ z => z)).q K) ?_ ⟨by rw [l3], by rw [l3]⟩ (I3.sx L2.2.1.1.1 L2.2.2.2.2.2.1)
  funext u
  unfold tn
  rw [show mI M3 (g + 18) = mI M2 (g + 18) from funext (fun x => by rw [f3, if_neg (fun z => by omega)]), show mI M3 (g + 14) = mI M2 (g + 14) from funext (fun x => by rw [f3, if_neg (fun z => by omega)])]
/-- a branch has been read, exactly -/
def brX (M : mM) (a g N K R W C : Nat) (E : Eg9) (tg : Int) (s b : Nat) (nms : List nm9) (S : (Int × Int) × Nat) (cm' : cm9) (x : Int) (M3 : mM) : Prop := brQ M a g N K R W C E tg s x M3 ∧ ((S.1.1 ≠ 0 ∧ fpw M3 a S.1) ∨ (S.1.1 = 0 ∧ S.2 = s ∧ mI M3 a 16 = 0 ∧ mI M3 (g + 25) C = (b : Int) + 1 ∧ RSq M3 a g K nms ∧ ∀ T3 Z3, cI M a g N K R W C E tg T3 Z3 M3 → RCw E.2 M3 g R W T3 E.1 Z3 C cm'))
theorem x_br_end {cm : cm9} {br : br9} {b Z0 s k : Nat} {l8 : Int} {Q : Int → mM → Prop} (hC : C < 60) (hb : b < 8) (h : bI M a g N K R W C E tg b Z0 T2 Z2 M2) (hk : k ≤ N) (hs : mI M2 a 16 = 0 → k = s ∧ T2 ≤ s ∧ Z2 ≤ s) (hZ : Z2 ≤ 16385) (i8 : i32 l8) (h8 : l8 = 0 ∨ ¬ (mI M2 a 16 = 0)) (hB : mI M2 a 16 = 0 → RCw E.2 M2 g R W T2 E.1 Z2 C cm ∧ RBp E.2 M2 g R W T2 E.1 Z0 Z2 (8 * C + b) br) (hQ : ∀ M4, i32 (k : Int) → mOk M4 → brQ M a g N K R W C E tg s k M4 → mI M4 a = mI M2 a → mI M4 (g + 25) C = (b : Int) + 1 → (RSq M2 a g K nms → RSq M4 a g K nms) → (mI M2 a 16 = 0 → ∀ T3 Z3, cI M a g N K R W C E tg T3 Z3 M4 → RCw E.2 M4 g R W T3 E.1 Z3 C (cmA cm br)) → Q k M4) : h_MM_branch0_128 G (d + 8) a C b (8 * C + b : Nat) k l8 M2 Q := by
  have L2 := h.1.1
  have hN := L2.2.1.1.2.2
  have hg := L2.2.2.2.2.2.1
  have w2 := L2.2.1.1.1
  have z30 : mI M2 (g + 30) 1 = (Z2 : Int) := h.1.2.2.2.1.1
  have hZ0 := h.2.2.1
  have b480 : ((0 : Int) ≤ ((8 * C + b : Nat) : Int) ∧ ((8 * C + b : Nat) : Int) < ((480 : Nat) : Int)) := by omega
  have b60 : ((0 : Int) ≤ (C : Int) ∧ (C : Int) < ((60 : Nat) : Int)) := by omega
  refine k_MM_branch0_128 L2.1 (i32s (by omega) (by omega)) (i32s (by omega) (by omega)) (i32s (by omega) (by omega)) (i32s (by omega) (by omega)) i8 ⟨fun _ => w2.1.1, fun _ => ⟨w2.1.1, ?_⟩, fun q => absurd h8 q⟩
  rw [show mR M2 a 10 = g from L2.2.2.2.2.1, show mR M2 g 27 = g + 30 from (w2.gp hg).2.2.1.2.2.2.2.2.2.2.2.2.2.2.2.1, show mR M2 g 25 = g + 28 from (w2.gp hg).2.2.1.2.2.2.2.2.2.2.2.2.2.1, show mR M2 g 26 = g + 29 from (w2.gp hg).2.2.1.2.2.2.2.2.2.2.2.2.2.2.1, z30, Int.toNat_natCast, h.2.1]
  refine ⟨(w2.gp hg).1, (w2.nu (n30 hg)).1, (w2.gp hg).2.2.2.2.2.2.2.2.2.2.2.1.1, by rw [(w2.gp hg).2.2.2.2.2.2.2.2.2.2.2.1.2]; exact b480, (w2.gp hg).2.2.2.2.2.2.2.2.2.2.2.2.1, by rw [(w2.gp hg).2.2.2.2.2.2.2.2.2.2.2.2.2]; exact b480, i32s (by omega) (by omega), fun M3 e3 => ?_⟩
  obtain ⟨c3, f3, a3, G3⟩ := h.1.st (i := 29) (i32s (by omega) (by omega)) (by omega) (by omega) (by decide) (by decide) e3
  have L3 := c3.1
  have w3 := L3.2.1.1.1
  rw [show mR M3 a 10 = g from L3.2.2.2.2.1, show mR M3 g 22 = g + 25 from (w3.gp hg).2.2.1.2.2.2.2.2.2.2.1, Int.toNat_natCast]
  refine ⟨(w3.gp hg).1, (w3.gp hg).2.2.2.2.2.2.2.2.1.1, by rw [(w3.gp hg).2.2.2.2.2.2.2.2.1.2]; exact b60, i32s (by omega) (by omega), fun M4 e4 => ?_⟩
  have key := br_end (x := (k : Int)) hC hb h (by omega) (fun z => ⟨by have := hs z; omega, (hs z).2⟩) hZ e3 e4
  obtain ⟨c4, f4, a4, G4⟩ := c3.st (i := 25) (v := (b : Int) + 1) (i32s (by omega) (by omega)) (by omega) (by omega) (by decide) (by decide) e4
  exact hQ M4 (i32s (by omega) (by omega)) key.1 key.2 (a4.trans a3) (by rw [f4, if_pos ⟨rfl, rfl⟩]) (fun rs => (rs.st (i := 29) L2 (i32s (by omega) (by omega)) (by omega) (by decide) (by decide) e3).st (i := 25) L3 (i32s (by omega) (by omega)) (by omega) (by decide) (by decide) e4) (fun z => br_endw hC hb h z hZ (hB z).1 (hB z).2 e3 e4)
theorem x_br_sets {gm : gm9} {cm : cm9} {p0 : Int} {ij : Nat × Nat} {b Z0 s : Nat} (eγ : E.2 = txg M a N nms gm) (wM : Wd M a) (hC : C < 60) (hb : b < 8) (hsN : s < N) (hg : g = a + 13 ∨ g = a + 49) : ∀ (f f' p T2 Z2 : Nat) (M2 : mM) (seen : List Nat) (ss : List (Nat × Nat × Nat × Nat)), RCw E.2 M2 g R W T2 E.1 Z2 C cm → RBp E.2 M2 g R W T2 E.1 Z0 Z2 (8 * C + b) (p0, ij, ss) → s ≤ p + f' → bI M a g N K R W C E tg b Z0 T2 Z2 M2 → RSq M2 a g K nms → SNq M2 a g K nms Z0 Z2 seen → mI M2 a 16 = 0 → Se (wk M a) f p s → T2 ≤ p → Z2 ≤ p → h_MM_branch0_128 G (d + 8) a C b (8 * C + b : Nat) p 1 M2 (fun x M3 => i32 x ∧ mOk M3 ∧ brX M a g N K R W C E tg s b nms (sef (wk M a) (nt M (a + 7)) (smx M a) N nms f' p seen) (cmA cm (p0, ij, ss ++ sel9 (wk M a) (smx M a) N nms f' p)) x M3) := by
  intro f
  induction f with
  | zero => intro f' p T2 Z2 M2 seen ss _ _ _ _ _ _ _ hs; exact hs.elim
  | succ f ih =>
    intro f' p T2 Z2 M2 seen ss hw hB hf' h rs sn z2 hse hT2 hZ2
    have sgs := hse.sg.1
    obtain ⟨w0, w1, w2', w3, c, he, w4, hnx⟩ := hse
    have L2 := h.1.1
    have hN := L2.2.1.1.2.2
    have w2 := L2.2.1.1.1
    have hlt := he.pr.1
    have hcs : c + 1 ≤ s := by
      rcases hnx with ⟨y, -⟩ | ⟨-, y⟩
      · omega
      · have := y.sg.1; omega
    have wkE := h.1.2.1.wk hg
    have b480 : ((0 : Int) ≤ ((8 * C + b : Nat) : Int) ∧ ((8 * C + b : Nat) : Int) < ((480 : Nat) : Int)) := by omega
    have cN : c < N := by omega
    have c1N : c + 1 < N := by omega
    have tm : c - (p + 4) ≤ c - (p + 4) := Nat.le_refl _
    have hZ16 : Z2 ≤ 16384 := by omega
    have hZ0 := h.2.2.1
    obtain ⟨f', rfl⟩ : ∃ f2, f' = f2 + 1 := ⟨f' - 1, by omega⟩
    have eS := sef_s (pl := nt M (a + 7)) (sm := smx M a) (nms := nms) (seen := seen) (f := f') (cpq_at he w4 cN)
    generalize sef (wk M a) (nt M (a + 7)) (smx M a) N nms (f' + 1) p seen = S at eS ⊢
    have eL : sel9 (wk M a) (smx M a) N nms (f' + 1) p = (vix9 (smx M a) nms (p + 1), p + 4, c, p) :: (if wk M a (c + 1) = 29 then sel9 (wk M a) (smx M a) N nms f' (c + 2) else []) := by rw [sel9, cpq_at he w4 cN]
    generalize sel9 (wk M a) (smx M a) N nms (f' + 1) p = SL at eL ⊢
    refine k_MM_branch0_128 L2.1 (i32s (by omega) (by omega)) (i32s (by omega) (by omega)) (i32s (by omega) (by omega)) (i32s (by omega) (by omega)) ⟨by decide, by decide⟩ ⟨fun _ => w2.1.1, fun q => ?_, fun _ => ⟨w2.1.1, ?_⟩⟩
    · rcases q with q | q
      · exact absurd q (by decide)
      · exact absurd z2 q
    rw [show mR M2 a 10 = g from L2.2.2.2.2.1, show mR M2 g 25 = g + 28 from (w2.gp hg).2.2.1.2.2.2.2.2.2.2.2.2.2.1, Int.toNat_natCast, h.2.1]
    refine ⟨(w2.gp hg).1, (w2.gp hg).2.2.2.2.2.2.2.2.2.2.2.1.1, by rw [(w2.gp hg).2.2.2.2.2.2.2.2.2.2.2.1.2]; exact b480, ?_⟩
    refine (x_MM_setItem (d := d) eγ wM h.1 rs sn z2 w0 w1 w2' w3 he w4 cN hT2 hZ16 hZ0 tm).mono (fun x M3 t3 => ?_)
    obtain ⟨ix, o3, ⟨hx, m3, T3, Z3, c3, ⟨t1, t2, t3', t4⟩, k3⟩, sx⟩ := t3
    have B3 := h.si (c := c) (Tm := 0) z2 m3 c3 t1 t3' (fun z => (k3 z).2) hb
    have L3 := c3.1
    have w3 := L3.2.1.1.1
    have wkE3 := c3.2.1.wk hg
    have hT3 : T3 ≤ c + 1 := by omega
    have hZ3 : Z3 ≤ c + 1 := by omega
    refine ⟨ix, o3, w3.1.1, ?_⟩
    obtain ⟨y, hy, hyN⟩ : ∃ y : Nat, x = (y : Int) ∧ y + 1 ≤ N := by
      rcases hx with z | z
      · exact ⟨c, z, by omega⟩
      · exact ⟨c + 1, z, by omega⟩
    have k3' : mI M3 a 16 = 0 → y = c + 1 := fun z => by have := (k3 z).1; omega
    have hG3 : mI M3 a 16 = 0 → Ge M2 g R W (C + 1) Z2 T2 M3 := fun z => (k3 z).2
    have hT23 : T2 ≤ T3 := t1
    clear hx k3 t1 t2 t3' t4 sgs
    subst hy
    refine L3.wd (d := d + 7) (by omega) (fun u hu iu => ⟨iu, L3.1, fun v hv v' hv' => ?_⟩)
    rw [wkE3] at hu
    by_cases z3 : mI M3 a 16 = 0
    · have ey := k3' z3
      subst ey
      obtain ⟨u1, -, u3, u4, ⟨e, u5, u6⟩, u9⟩ : (stf (wk M a) (nt M (a + 7)) (smx M a) nms p c seen).1 = 0 ∧ mI M3 a 16 = 0 ∧ RSq M3 a g K nms ∧ ln M3 (g + 30) = (Z2 + 1 : Nat) ∧ (∃ e, fnd9 (smx M a) nms (p + 1) = some e ∧ SNq M3 a g K nms Z0 (Z2 + 1) (e.1 :: seen)) ∧ ∀ T3, Lc M3 a g N T3 K → RSs E.2 M3 g R W T3 E.1 Z2 (vix9 (smx M a) nms (p + 1), p + 4, c, p) := by
        rcases sx with ⟨y1, y2⟩ | y
        · exact absurd (y2.1.symm.trans z3) y1
        · exact y
      have eZ : Z3 = Z2 + 1 := by have := c3.2.2.2.1.1; omega
      subst eZ
      obtain ⟨hw3, hB3⟩ := br_siw (h.1.2.2.2.2 z2).1.1 hw hB hb hT23 (hG3 z3) (u9 T3 L3)
      rw [if_neg (fun z => z u1), u5] at eS
      simp only [] at eS
      rcases hnx with ⟨e1, e2⟩ | ⟨e1, e2⟩
      · rw [if_neg (fun q => e2 (hu.symm.trans q))] at hv
        subst hv
        rw [if_pos rfl] at hv'
        subst hv'
        rw [if_neg e2] at eS eL
        subst eL
        refine x_br_end (nms := nms) hC hb B3 (by omega) (fun _ => by omega) (by omega) ⟨by decide, by decide⟩ (Or.inl rfl) (fun _ => ⟨hw3, hB3⟩) (fun M4 i4 o4 bq aI r25 rsq rcw => ⟨i4, o4, bq, Or.inr ⟨by rw [eS], by rw [eS]; exact e1.symm, by rw [aI]; exact z3, r25, rsq u3, rcw z3⟩⟩)
      · rw [if_pos (hu.trans e1)] at hv
        subst hv
        rw [if_neg (by decide)] at hv'
        subst hv'
        rw [show ((c + 1 : Nat) : Int) + 1 = ((c + 2 : Nat) : Int) by omega]
        rw [if_pos e1] at eS eL
        subst eL
        have key := ih f' (c + 2) T3 (Z2 + 1) M3 (e.1 :: seen) _ hw3 hB3 (by omega) B3 u3 u6 z3 e2 (by omega) (by omega)
        rw [List.append_assoc] at key
        rw [eS]
        exact key
    · have v01 : v = 0 ∨ v = 1 := by split at hv <;> omega
      obtain ⟨u1, u2⟩ : (stf (wk M a) (nt M (a + 7)) (smx M a) nms p c seen).1 ≠ 0 ∧ fpw M3 a (stf (wk M a) (nt M (a + 7)) (smx M a) nms p c seen) := by
        rcases sx with y | y
        · exact y
        · exact absurd y.2.1 z3
      rw [if_pos u1] at eS
      obtain ⟨k', hk', hkN⟩ : ∃ k' : Nat, v' = (k' : Int) ∧ k' ≤ N := by
        by_cases q : v = 0
        · rw [if_pos q] at hv'; exact ⟨y, hv', by omega⟩
        · rw [if_neg q] at hv'; exact ⟨y + 1, by omega, by omega⟩
      subst hk'
      refine x_br_end (nms := nms) (cm := cm) (br := (p0, ij, ss)) hC hb B3 hkN (fun q => absurd q z3) (by omega) (i32s (by omega) (by omega)) (Or.inr z3) (fun z => absurd z z3) (fun M4 i4 o4 bq aI r25 rsq _ => ⟨i4, o4, bq, Or.inl ?_⟩)
      rw [eS]
      exact ⟨u1, by rw [aI]; exact u2.1, by rw [aI]; exact u2.2⟩
theorem x_MM_branch0 {gm : gm9} {cm : cm9} {p q s e b : Nat} (eγ : E.2 = txg M a N nms gm) (hw : RCw E.2 M2 g R W T2 E.1 Z2 C cm) (wM : Wd M a) (h : cI M a g N K R W C E tg T2 Z2 M2) (rs : RSq M2 a g K nms) (z2 : mI M2 a 16 = 0) (hcc : Cc M2 g R W T2 E.1 Z2 C) (hb : mI M2 (g + 25) C = (b : Int)) (hC : C < 60) (he5 : Eo (wk M a) 5 p q) (w33 : wk M a q = 33) (hss : Ss (wk M a) (q + 1) s) (hsN : s < N) (heN : e < N) (hT2 : T2 ≤ p) (hZ2 : Z2 ≤ p) : Ci G y_MM_branch0 (d + 9) [vr a, vi C, vi p, vi e] M2 (fun x M3 => i32 x ∧ mOk M3 ∧ brX M a g N K R W C E tg s b nms (brS (wk M a) (nt M (a + 7)) (smx M a) N nms b p q) (cmA cm (brw (wk M a) (nt M (a + 7)) (smx M a) N nms p q)) x M3) := by
  have L2 := h.1
  have hN := L2.2.1.1.2.2
  have hg := L2.2.2.2.2.2.1
  have w2 := L2.2.1.1.1
  have hlt := he5.pr.1
  have hqs := hss.sg.1
  have wkE := h.2.1.wk hg
  have sx2 := h.2.1.sx wM hg
  have hb8 : b ≤ 8 := by have := hcc.2.2.1; omega
  have b60 : ((0 : Int) ≤ (C : Int) ∧ (C : Int) < ((60 : Nat) : Int)) := by omega
  have ie : i32 (e : Int) := i32s (by omega) (by omega)
  have pN : p < N := by omega
  have qN : q < N := by omega
  have q1N : q + 1 < N := by
    rcases hss with ⟨-, y⟩ | ⟨-, f, y⟩
    · omega
    · cases f with
      | zero => exact y.elim
      | succ f =>
        obtain ⟨-, -, -, -, c, y1, -, y2⟩ := y
        have := y1.pr.1
        rcases y2 with ⟨y2, -⟩ | ⟨-, y2⟩
        · omega
        · have := y2.sg.1; omega
  refine k_MM_branch0 L2.1 (i32s (by omega) (by omega)) (i32s (by omega) (by omega)) ie ?_
  rw [show mR M2 a 10 = g from L2.2.2.2.2.1, show mR M2 g 22 = g + 25 from (w2.gp hg).2.2.1.2.2.2.2.2.2.2.1, Int.toNat_natCast, hb]
  refine ⟨w2.1.1, (w2.gp hg).1, (w2.gp hg).2.2.2.2.2.2.2.2.1.1, by rw [(w2.gp hg).2.2.2.2.2.2.2.2.1.2]; exact b60, fun q8 => ?_, fun q8 => ?_⟩
  · refine (s_MM_place0 (d := d + 7) L2.1 L2.2.1 pN).mono (fun y M5 h5 => ?_)
    obtain ⟨e5, hy⟩ := h5
    subst e5
    have hy32 : i32 y := by rw [hy]; exact (L2.1 _ _).1
    refine ⟨hy32, L2.1, w2.1.1, (s_MM_stop ⟨by decide, by decide⟩ hy32 L2.1 w2).mono (fun M6 h6 => ⟨h6.1.1, ie, h6.1.1, ⟨by omega, ?_⟩, Or.inl ?_⟩)⟩
    rotate_left
    · have b8 : b = 8 := by omega
      unfold brS
      rw [if_pos b8]
      exact ⟨by simp, h6.2.1, by rw [h6.2.2.1, hy, sx2.2.1]⟩
    obtain ⟨-, -, T3, Z3, c3, -, -⟩ := si_stop (c := 0) (Tm := 0) h (by decide) h6
    exact ⟨T3, Z3, c3, fun z => by rw [h6.2.1] at z; exact absurd z (by decide)⟩
  · have hb7 : b < 8 := by omega
    have eB : brS (wk M a) (nt M (a + 7)) (smx M a) N nms b p q = bsf (wk M a) (nt M (a + 7)) (smx M a) N nms p q := if_neg (by omega)
    rw [eB]
    have eS : bsf (wk M a) (nt M (a + 7)) (smx M a) N nms p q = if (rf9 (wk M a) (nt M (a + 7)) (smx M a) nms 0 0 p q).1 ≠ 0 then (rf9 (wk M a) (nt M (a + 7)) (smx M a) nms 0 0 p q, 0) else if wk M a (q + 1) = 10 then ((0, 0), q + 2) else sef (wk M a) (nt M (a + 7)) (smx M a) N nms N (q + 1) [] := rfl
    generalize bsf (wk M a) (nt M (a + 7)) (smx M a) N nms p q = S at eS ⊢
    have e8 : 8 * (C : Int) + (b : Int) = ((8 * C + b : Nat) : Int) := by omega
    have b480 : ((0 : Int) ≤ ((8 * C + b : Nat) : Int) ∧ ((8 * C + b : Nat) : Int) < ((480 : Nat) : Int)) := by omega
    rw [e8]
    refine L2.ub (d := d + 6) (by omega) (by rw [wkE]; exact he5.pr.2.2.2.2.1) qN (by rw [wkE]; exact w33) (Or.inr (Or.inr rfl)) ⟨i32s (by omega) (by omega), L2.1, w2.1.1, ?_⟩
    rw [show mR M2 a 10 = g from L2.2.2.2.2.1, show mR M2 g 23 = g + 26 from (w2.gp hg).2.2.1.2.2.2.2.2.2.2.2.1]
    refine ⟨(w2.gp hg).1, (x_crule (d := d + 1) eγ h rs z2 wM (Or.inl rfl) (by omega) (he5.six (by omega)) qN).mono (fun x M3 q3 => ?_)⟩
    obtain ⟨ex, T3, t1, t2, Rl, hp, qx⟩ := q3
    generalize rf9 (wk M a) (nt M (a + 7)) (smx M a) nms 0 0 p q = F at eS qx
    subst ex
    have iT : i32 (T2 : Int) := i32s (by omega) (by omega)
    have hZ16 : Z2 ≤ 16385 := by omega
    have hT16 : T2 ≤ 16385 := by omega
    have hTs : T3 ≤ q := by omega
    have hZs : Z2 ≤ q := by omega
    have iq2 : i32 ((q : Int) + 1 + 1) := i32s (by omega) (by omega)
    have hqi : 0 ≤ (q : Int) + 1 + 1 ∧ (q : Int) + 1 + 1 ≤ N := by omega
    have ib1 : i32 ((b : Int) + 1) := i32s (by omega) (by omega)
    have b60' := b60
    have t1' := Nat.le_of_lt t1
    have iZ0 : i32 ((Z2 : Int) - Z2) := i32s (by omega) (by omega)
    obtain ⟨c3, -⟩ := h.rl z2 t1' Rl hp
    have L3 := c3.1
    have w3 := L3.2.1.1.1
    clear hqs hlt t2 t1 hN
    refine ⟨iT, L3.1, (w3.gp hg).2.2.2.2.2.2.2.2.2.1.1, by rw [(w3.gp hg).2.2.2.2.2.2.2.2.2.1.2]; exact b480, fun M4 e4 => ?_⟩
    rw [Int.toNat_natCast] at e4
    have P := fun (M5 M6 : mM) (pl : Int) (ip : i32 pl) e5 e6 => br_put (M5 := M5) (M6 := M6) h z2 hcc hb hb7 hZ16 hT16 t1' ip Rl hp e4 e5 e6
    have c4 := (P _ _ 0 ⟨by decide, by decide⟩ rfl rfl).2.1.1
    have L4 := c4.1
    have w4 := L4.2.1.1.1
    rw [show mR M4 a 10 = g from L4.2.2.2.2.1, show mR M4 g 24 = g + 27 from (w4.gp hg).2.2.1.2.2.2.2.2.2.2.2.2.1]
    refine ⟨w4.1.1, (w4.gp hg).1, (s_MM_place0 (d := d + 7) L4.1 L4.2.1 pN).mono (fun y M5 h5 => ?_)⟩
    obtain ⟨e5, hy⟩ := h5
    subst e5
    have hy32 : i32 y := by rw [hy]; exact (L4.1 _ _).1
    refine ⟨hy32, L4.1, (w4.gp hg).2.2.2.2.2.2.2.2.2.2.1.1, by rw [(w4.gp hg).2.2.2.2.2.2.2.2.2.2.1.2]; exact b480, fun M6 e6 => ?_⟩
    rw [Int.toNat_natCast] at e6
    have c6 := (P M6 _ y hy32 e6 rfl).2.1.2
    have L6 := c6.1
    have w6 := L6.2.1.1.1
    have z30 : mI M6 (g + 30) 1 = (Z2 : Int) := c6.2.2.2.1.1
    rw [show mR M6 a 10 = g from L6.2.2.2.2.1, show mR M6 g 27 = g + 30 from (w6.gp hg).2.2.1.2.2.2.2.2.2.2.2.2.2.2.2.1, show mR M6 g 25 = g + 28 from (w6.gp hg).2.2.1.2.2.2.2.2.2.2.2.2.2.1, z30]
    refine ⟨w6.1.1, (w6.gp hg).1, (w6.nu (n30 hg)).1, (w6.gp hg).2.2.2.2.2.2.2.2.2.2.2.1.1, by rw [(w6.gp hg).2.2.2.2.2.2.2.2.2.2.2.1.2]; exact b480, fun M7 e7 => ?_⟩
    rw [Int.toNat_natCast] at e7
    obtain ⟨B7, -, a7⟩ := P M6 M7 y hy32 e6 e7
    have hyp : y = nt M (a + 7) p := by rw [hy, (c4.2.1.sx wM hg).2.1]
    have W7 : mI M3 a 16 = 0 → Rtw E.2 M3 g R W T3 E.1 (T2 : Int) 0 p q → RCw E.2 M7 g R W T3 E.1 Z2 C cm ∧ RBp E.2 M7 g R W T3 E.1 Z2 Z2 (8 * C + b) (nt M (a + 7) p, (p, q), []) := fun z hr => by
      rw [← hyp]
      exact br_putw h z2 hb hb7 hZ16 hT16 t1' hy32 Rl hp z hw hr e4 e6 e7
    have rs7 : RSq M3 a g K nms → RSq M7 a g K nms := fun r3 => ((r3.st (i := 26) L3 iT (by omega) (by decide) (by decide) e4).st (i := 27) L4 hy32 (by omega) (by decide) (by decide) e6).st (i := 28) L6 (i32s (by omega) (by omega)) (by omega) (by decide) (by decide) e7
    have L7 := B7.1.1
    have w7 := L7.2.1.1.1
    have wkE7 := B7.1.2.1.wk hg
    rw [show (q : Int) + 1 = ((q + 1 : Nat) : Int) by omega]
    refine L7.wd (d := d + 7) q1N (fun u hu iu => ⟨iu, L7.1, fun q10 => ⟨w7.1.1, ?_⟩, fun q10 => ?_⟩)
    · rw [wkE7] at hu
      have es : s = q + 2 := by
        rcases hss with ⟨-, y⟩ | ⟨y, -⟩
        · omega
        · exact absurd (hu.symm.trans q10) y
      have z30' : mI M7 (g + 30) 1 = (Z2 : Int) := B7.1.2.2.2.1.1
      rw [show mR M7 a 10 = g from L7.2.2.2.2.1, show mR M7 g 27 = g + 30 from (w7.gp hg).2.2.1.2.2.2.2.2.2.2.2.2.2.2.2.1, show mR M7 g 25 = g + 28 from (w7.gp hg).2.2.1.2.2.2.2.2.2.2.2.2.2.1, show mR M7 g 26 = g + 29 from (w7.gp hg).2.2.1.2.2.2.2.2.2.2.2.2.2.2.1, z30', Int.toNat_natCast, B7.2.1]
      refine ⟨(w7.gp hg).1, (w7.nu (n30 hg)).1, (w7.gp hg).2.2.2.2.2.2.2.2.2.2.2.1.1, by rw [(w7.gp hg).2.2.2.2.2.2.2.2.2.2.2.1.2]; exact b480, (w7.gp hg).2.2.2.2.2.2.2.2.2.2.2.2.1, by rw [(w7.gp hg).2.2.2.2.2.2.2.2.2.2.2.2.2]; exact b480, iZ0, fun M8 e8 => ?_⟩
      obtain ⟨c8, f8, a8, G8⟩ := B7.1.st (i := 29) iZ0 (by omega) (by omega) (by decide) (by decide) e8
      have L8 := c8.1
      have w8 := L8.2.1.1.1
      rw [show mR M8 a 10 = g from L8.2.2.2.2.1, show mR M8 g 22 = g + 25 from (w8.gp hg).2.2.1.2.2.2.2.2.2.2.1]
      refine ⟨(w8.gp hg).1, (w8.gp hg).2.2.2.2.2.2.2.2.1.1, by rw [(w8.gp hg).2.2.2.2.2.2.2.2.1.2]; exact b60', ib1, fun M9 e9 => ?_⟩
      rw [show ((q + 1 : Nat) : Int) + 1 = (q : Int) + 1 + 1 by omega]
      have key := br_end (x := (q : Int) + 1 + 1) (s := s) hC hb7 B7 hqi (fun _ => by omega) hZ16 e8 e9
      obtain ⟨c9, f9, a9, G9⟩ := c8.st (i := 25) ib1 (by omega) (by omega) (by decide) (by decide) e9
      have aI : mI M9 a = mI M3 a := by rw [a9, a8, a7]
      refine ⟨iq2, key.1, key.2, ?_⟩
      rcases qx with ⟨u1, u2⟩ | ⟨u1, u2, u3, u9⟩
      · rw [if_pos u1] at eS
        rw [eS]
        exact Or.inl ⟨u1, by rw [aI]; exact u2.1, by rw [aI]; exact u2.2⟩
      · rw [if_neg (fun z => z u1), if_pos (hu.symm.trans q10)] at eS
        rw [eS]
        obtain ⟨w7a, w7b⟩ := W7 u2 u9
        have eb : brw (wk M a) (nt M (a + 7)) (smx M a) N nms p q = (nt M (a + 7) p, (p, q), []) := by
          unfold brw
          rw [if_pos (hu.symm.trans q10)]
        rw [eb]
        exact Or.inr ⟨rfl, es.symm, by rw [aI]; exact u2, by rw [f9, if_pos ⟨rfl, rfl⟩], ((rs7 u3).st (i := 29) L7 iZ0 (by omega) (by decide) (by decide) e8).st (i := 25) L8 ib1 (by omega) (by decide) (by decide) e9, br_endw hC hb7 B7 (by rw [a7]; exact u2) hZ16 w7a w7b e8 e9⟩
    · rw [wkE7] at hu
      obtain ⟨f, se⟩ : ∃ f, Se (wk M a) f (q + 1) s := by
        rcases hss with ⟨y, -⟩ | ⟨-, y⟩
        · exact absurd (hu.trans y) q10
        · exact y
      have n10 : ¬ wk M a (q + 1) = 10 := fun z => q10 (hu.trans z)
      by_cases z7 : mI M7 a 16 = 0
      · rcases qx with ⟨u1, u2⟩ | ⟨u1, u2, u3, u9⟩
        · rw [a7, u2.1] at z7; exact absurd z7 u1
        · rw [if_neg (fun z => z u1), if_neg n10] at eS
          rw [eS]
          obtain ⟨w7a, w7b⟩ := W7 u2 u9
          have eb : brw (wk M a) (nt M (a + 7)) (smx M a) N nms p q = (nt M (a + 7) p, (p, q), [] ++ sel9 (wk M a) (smx M a) N nms N (q + 1)) := by
            unfold brw
            rw [if_neg n10]
            rfl
          rw [eb]
          exact x_br_sets eγ wM hC hb7 hsN hg f N (q + 1) T3 Z2 M7 [] [] w7a w7b (by omega) B7 (rs7 u3) SNq.nil z7 se (by omega) (by omega)
      · rcases qx with ⟨u1, u2⟩ | ⟨u1, u2, u3⟩
        · rw [if_pos u1] at eS
          refine x_br_end (nms := nms) (cm := cm) (br := (0, (0, 0), [])) hC hb7 B7 (by omega) (fun y => absurd y z7) hZ16 ⟨by decide, by decide⟩ (Or.inr z7) (fun z => absurd z z7) (fun M9 i9 o9 bq aI r25 rsq _ => ⟨i9, o9, bq, Or.inl ?_⟩)
          rw [eS]
          exact ⟨u1, by rw [aI, a7]; exact u2.1, by rw [aI, a7]; exact u2.2⟩
        · rw [a7] at z7; exact absurd u2 z7
end BRX
