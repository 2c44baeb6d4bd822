section
/-! The reference's branches, exactly. -/
/-- one branch: its fault, and where it ends -/
noncomputable def bsf (w pl : Nat → Int) (sm : Nat → Nat → Prop) (N : Nat) (nms : List nm9) (p q : Nat) : (Int × Int) × Nat := if (rf9 w pl sm nms 0 0 p q).1 ≠ 0 then (rf9 w pl sm nms 0 0 p q, 0) else if w (q + 1) = 10 then ((0, 0), q + 2) else sef w pl sm N nms N (q + 1) []
noncomputable def brS (w pl : Nat → Int) (sm : Nat → Nat → Prop) (N : Nat) (nms : List nm9) (b p q : Nat) : (Int × Int) × Nat := if b = 8 then ((5, pl p), 0) else bsf w pl sm N nms p q
/-- a branch in pure words -/
noncomputable def brw (w pl : Nat → Int) (sm : Nat → Nat → Prop) (N : Nat) (nms : List nm9) (p q : Nat) : br9 := (pl p, (p, q), if w (q + 1) = 10 then [] else sel9 w sm N nms N (q + 1))
/-- one branch more -/
def cmA (cm : cm9) (br : br9) : cm9 := (cm.1, cm.2.1, cm.2.2.1, cm.2.2.2 ++ [br])
/-- a branch that is being read -/
def RBp (γ : gW9) (M : mM) (g R W T : Nat) (Er : Nat → Nat) (Z0 Z x : Nat) (br : br9) : Prop := mI M (g + 27) x = br.1 ∧ Rtw γ M g R W T Er (mI M (g + 26) x) 0 br.2.1.1 br.2.1.2 ∧ Z = Z0 + br.2.2.length ∧ ∀ (i : Nat) (q : Nat × Nat × Nat × Nat), br.2.2[i]? = some q → RSs γ M g R W T Er (Z0 + i) q
section RBX
variable {a g R W C T2 T3 Z2 Z0 N K b x z : Nat} {M M2 M3 M4 M5 M6 : mM} {Er : Nat → Nat} {γ : gW9} {q : Nat × Nat × Nat × Nat} {br : br9} {cm : cm9} {tg : Int} {E : Eg9}
/-- the sets' lists are the same below Z -/
def lsZ (M : mM) (g Z : Nat) (M' : mM) : Prop := ∀ z, z < Z → nt M' (g + 30) z = nt M (g + 30) z ∧ nt M' (g + 34) z = nt M (g + 34) z ∧ nt M' (g + 32) z = nt M (g + 32) z
theorem lsZ.trans (h : lsZ M g Z2 M2) (k : lsZ M2 g Z2 M3) : lsZ M g Z2 M3 := fun z hz => ⟨(k z hz).1.trans (h z hz).1, (k z hz).2.1.trans (h z hz).2.1, (k z hz).2.2.trans (h z hz).2.2⟩
theorem lsZ.st {i j : Nat} {v : Int} (L2 : Lc M2 a g N T2 K) (hv : i32 v) (hi : 22 ≤ i ∧ i ≤ 29) (f1 : frO (13 + i)) (f2 : frO (49 + i)) (e : M3 = mUI M2 (g + i) j v) : lsZ M2 g Z2 M3 := by
  obtain ⟨-, -, -, m3, -, -⟩ := gsti L2 hv (by omega) f1 f2 (fun z => by omega) e
  have hg := L2.2.2.2.2.2.1
  exact fun z _ => ⟨(m3.lst (n30 hg) (fun z => z)).2.1 z, (m3.lst (n34 hg) (fun z => z)).2.1 z, (m3.lst (n32 hg) (fun z => z)).2.1 z⟩
theorem RSs.cg (h : RSs γ M2 g R W T2 Er z q) (k : Gn M2 g R W T2 M3) (hR : R ≤ 60) (hz : z < Z2) (hl : lsZ M2 g Z2 M3) : RSs γ M3 g R W T2 Er z q := by
  obtain ⟨q1, q2, q3, q4⟩ := h
  obtain ⟨l1, l2, l3⟩ := hl z hz
  unfold RSs
  rw [l1, l2, l3, k.tv (by omega) (by omega)]
  exact ⟨q1, q2, q3, q4.gn k hR⟩
theorem RSs.up (h : RSs γ M2 g R W T2 Er z q) (hT : T2 ≤ T3) : RSs γ M2 g R W T3 Er z q := ⟨h.1, h.2.1, h.2.2.1, h.2.2.2.up (Nat.le_refl _) (Nat.le_refl _) hT (fun _ _ => rfl)⟩
theorem RBw.cg (h : RBw γ M2 g R W T2 Er Z2 x br) (k : Gn M2 g R W T2 M3) (hR : R ≤ 60) (hl : lsZ M2 g Z2 M3) (hc : mI M3 (g + 26) x = mI M2 (g + 26) x ∧ mI M3 (g + 27) x = mI M2 (g + 27) x ∧ mI M3 (g + 28) x = mI M2 (g + 28) x ∧ mI M3 (g + 29) x = mI M2 (g + 29) x) : RBw γ M3 g R W T2 Er Z2 x br := by
  obtain ⟨h1, h2, h3, fs, h4, h5, h6⟩ := h
  obtain ⟨e1, e2, e3, e4⟩ := hc
  unfold RBw
  rw [e1, e2, e3, e4]
  exact ⟨h1, h2.gn k hR, h3, fs, h4, h5, fun i q hq => RSs.cg (h6 i q hq) k hR (by have := (List.getElem?_eq_some_iff.mp hq).1; omega) hl⟩
theorem RBp.cg (h : RBp γ M2 g R W T2 Er Z0 Z2 x br) (k : Gn M2 g R W T2 M3) (hR : R ≤ 60) (hl : lsZ M2 g Z2 M3) (hc : mI M3 (g + 26) x = mI M2 (g + 26) x ∧ mI M3 (g + 27) x = mI M2 (g + 27) x) (hT : T2 ≤ T3) : RBp γ M3 g R W T3 Er Z0 Z2 x br := by
  obtain ⟨h1, h2, h3, h4⟩ := h
  unfold RBp
  rw [hc.1, hc.2]
  exact ⟨h1, (h2.gn k hR).up (Nat.le_refl _) (Nat.le_refl _) hT (fun _ _ => rfl), h3, fun i q hq => (RSs.cg (h4 i q hq) k hR (by have := (List.getElem?_eq_some_iff.mp hq).1; omega) hl).up hT⟩
theorem RBp.add {p0 : Int} {ij : Nat × Nat} {ss : List (Nat × Nat × Nat × Nat)} (h : RBp γ M3 g R W T3 Er Z0 Z2 x (p0, ij, ss)) (hq : RSs γ M3 g R W T3 Er Z2 q) : RBp γ M3 g R W T3 Er Z0 (Z2 + 1) x (p0, ij, ss ++ [q]) := by
  obtain ⟨h1, h2, h3, h4⟩ := h
  have h3 : Z2 = Z0 + ss.length := h3
  refine ⟨h1, h2, by show Z2 + 1 = Z0 + (ss ++ [q]).length; rw [List.length_append, h3]; rfl, fun i q' hq' => ?_⟩
  have hq' : (ss ++ [q])[i]? = some q' := hq'
  by_cases c : i < ss.length
  · rw [List.getElem?_append_left c] at hq'
    exact h4 i q' hq'
  · have hl := (List.getElem?_eq_some_iff.mp hq').1
    rw [List.length_append] at hl
    have ei : i = ss.length := by simp at hl; omega
    subst ei
    rw [List.getElem?_append_right (by omega), Nat.sub_self] at hq'
    have : q = q' := Option.some.inj hq'
    rw [← this, ← h3]
    exact hq
theorem RBp.fin (h : RBp γ M3 g R W T3 Er Z0 Z2 x br) (h28 : mI M3 (g + 28) x = (Z0 : Int)) (h29 : mI M3 (g + 29) x = (Z2 : Int) - Z0) : RBw γ M3 g R W T3 Er Z2 x br := by
  obtain ⟨h1, h2, h3, h4⟩ := h
  exact ⟨h1, h2, by rw [h29, h3]; omega, Z0, h28, by omega, h4⟩
theorem RCw.cg (h : RCw γ M2 g R W T2 Er Z2 C cm) (k : Gn M2 g R W T2 M3) (hR : R ≤ 60) (hl : lsZ M2 g Z2 M3) (c22 : mI M3 (g + 22) C = mI M2 (g + 22) C) (c23 : mI M3 (g + 23) C = mI M2 (g + 23) C) (c24 : mI M3 (g + 24) C = mI M2 (g + 24) C) (c25 : mI M3 (g + 25) C = mI M2 (g + 25) C) (cb : ∀ b' : Nat, b' < cm.2.2.2.length → mI M3 (g + 26) (8 * C + b') = mI M2 (g + 26) (8 * C + b') ∧ mI M3 (g + 27) (8 * C + b') = mI M2 (g + 27) (8 * C + b') ∧ mI M3 (g + 28) (8 * C + b') = mI M2 (g + 28) (8 * C + b') ∧ mI M3 (g + 29) (8 * C + b') = mI M2 (g + 29) (8 * C + b')) : RCw γ M3 g R W T2 Er Z2 C cm := by
  obtain ⟨h1, h2, h3, h4, h5⟩ := h
  unfold RCw
  rw [c22, c23, c24, c25]
  exact ⟨h1, h2, h3.gn k hR, h4, fun b' y hb' => (h5 b' y hb').cg k hR hl (cb b' (List.getElem?_eq_some_iff.mp hb').1)⟩
theorem RCw.app (h : RCw γ M2 g R W T2 Er Z2 C cm) (k : Gn M2 g R W T2 M3) (hR : R ≤ 60) (hl : lsZ M2 g Z2 M3) (c22 : mI M3 (g + 22) C = mI M2 (g + 22) C) (c23 : mI M3 (g + 23) C = mI M2 (g + 23) C) (c24 : mI M3 (g + 24) C = mI M2 (g + 24) C) (hb : cm.2.2.2.length = b) (hb8 : b < 8) (c25 : mI M3 (g + 25) C = (b : Int) + 1) (cb : ∀ b' : Nat, b' < b → mI M3 (g + 26) (8 * C + b') = mI M2 (g + 26) (8 * C + b') ∧ mI M3 (g + 27) (8 * C + b') = mI M2 (g + 27) (8 * C + b') ∧ mI M3 (g + 28) (8 * C + b') = mI M2 (g + 28) (8 * C + b') ∧ mI M3 (g + 29) (8 * C + b') = mI M2 (g + 29) (8 * C + b')) (hn : RBw γ M3 g R W T2 Er Z2 (8 * C + b) br) : RCw γ M3 g R W T2 Er Z2 C (cmA cm br) := by
  obtain ⟨h1, h2, h3, h4, h5⟩ := h
  have ln : (cm.2.2.2 ++ [br]).length = b + 1 := by rw [List.length_append, hb]; rfl
  unfold RCw
  rw [c22, c23, c24, c25]
  refine ⟨h1, h2, h3.gn k hR, ⟨by show (b : Int) + 1 = (((cm.2.2.2 ++ [br]).length : Nat) : Int); rw [ln]; omega, by show (cm.2.2.2 ++ [br]).length ≤ 8; rw [ln]; omega⟩, fun b' y hb' => ?_⟩
  have hb' : (cm.2.2.2 ++ [br])[b']? = some y := hb'
  by_cases c : b' < b
  · rw [List.getElem?_append_left (by omega)] at hb'
    exact (h5 b' y hb').cg k hR hl (cb b' c)
  · have hl := (List.getElem?_eq_some_iff.mp hb').1
    have ei : b' = b := by omega
    subst ei
    rw [List.getElem?_append_right (by omega), hb, Nat.sub_self] at hb'
    have : br = y := Option.some.inj hb'
    rw [← this]
    exact hn
theorem RCw.len (h : RCw γ M2 g R W T2 Er Z2 C cm) (hb : mI M2 (g + 25) C = (b : Int)) : cm.2.2.2.length = b := by
  have := h.2.2.2.1.1
  omega
/-- the game's sizes are told by its lists -/
theorem cI.un {Z3 : Nat} (h : cI M a g N K R W C E tg T2 Z2 M3) (k : cI M a g N K R W C E tg T3 Z3 M3) : T3 = T2 ∧ Z3 = Z2 := by
  have q1 := h.1.2.2.2.1 (g + 1) (by omega)
  have q2 := k.1.2.2.2.1 (g + 1) (by omega)
  have q3 := h.2.2.2.1.1
  have q4 := k.2.2.2.1.1
  omega
/-- the branch's end, in pure words -/
theorem br_endw (hC : C < 60) (hb : b < 8) (h : bI M a g N K R W C E tg b Z0 T2 Z2 M2) (z2 : mI M2 a 16 = 0) (hZ : Z2 ≤ 16385) (hw : RCw E.2 M2 g R W T2 E.1 Z2 C cm) (hB : RBp E.2 M2 g R W T2 E.1 Z0 Z2 (8 * C + b) br) (e3 : M3 = mUI M2 (g + 29) (8 * C + b) ((Z2 : Int) - Z0)) (e4 : M4 = mUI M3 (g + 25) C ((b : Int) + 1)) : ∀ T3 Z3, cI M a g N K R W C E tg T3 Z3 M4 → RCw E.2 M4 g R W T3 E.1 Z3 C (cmA cm br) := by
  obtain ⟨c2, q28, hZ0, q25, hc⟩ := h
  have L2 := c2.1
  have l3 := lsZ.st (Z2 := Z2) (i := 29) L2 (i32s (by omega) (by omega)) (by omega) (by decide) (by decide) e3
  obtain ⟨c3, f3, a3, G3⟩ := c2.st (i := 29) (i32s (by omega) (by omega)) (by omega) (by omega) (by decide) (by decide) e3
  have l4 := lsZ.st (Z2 := Z2) (i := 25) c3.1 (i32s (by omega) (by omega)) (by omega) (by decide) (by decide) e4
  obtain ⟨c4, f4, a4, G4⟩ := c3.st (i := 25) (i32s (by omega) (by omega)) (by omega) (by omega) (by decide) (by decide) e4
  have G24 := G3.trans G4
  have hR := (c2.2.2.2.2 z2).1.1
  have hl := l3.trans l4
  have cell : ∀ i x, i ≠ 25 → i ≠ 29 → mI M4 (g + i) x = mI M2 (g + i) x := fun i x h1 h2 => by rw [f4, if_neg (fun z => by omega), f3, if_neg (fun z => by omega)]
  intro T3 Z3 k
  obtain ⟨e1, e2⟩ := c4.un k
  subst e1 e2
  have r25 : mI M4 (g + 25) C = (b : Int) + 1 := by rw [f4, if_pos ⟨rfl, rfl⟩]
  have r29 : mI M4 (g + 29) (8 * C + b) = (Z3 : Int) - Z0 := by rw [f4, if_neg (fun z => by omega), f3, if_pos ⟨rfl, rfl⟩]
  have hlen := hw.len q25
  refine hw.app G24 hR hl (cell 22 C (by omega) (by omega)) (cell 23 C (by omega) (by omega)) (cell 24 C (by omega) (by omega)) hlen hb r25 (fun b' hb' => ⟨cell 26 _ (by omega) (by omega), cell 27 _ (by omega) (by omega), cell 28 _ (by omega) (by omega), ?_⟩) (RBp.fin ?_ (by rw [cell 28 _ (by omega) (by omega)]; exact q28) r29)
  · rw [f4, if_neg (fun z => by omega), f3, if_neg (fun z => by omega)]
  · exact hB.cg G24 hR hl ⟨cell 26 _ (by omega) (by omega), cell 27 _ (by omega) (by omega)⟩ (Nat.le_refl _)
/-- after a set -/
theorem br_siw {p0 : Int} {ij : Nat × Nat} {ss : List (Nat × Nat × Nat × Nat)} (hR : R ≤ 60) (hw : RCw E.2 M2 g R W T2 E.1 Z2 C cm) (hB : RBp E.2 M2 g R W T2 E.1 Z0 Z2 (8 * C + b) (p0, ij, ss)) (hb : b < 8) (hT : T2 ≤ T3) (G3 : Ge M2 g R W (C + 1) Z2 T2 M3) (hq : RSs E.2 M3 g R W T3 E.1 Z2 q) : RCw E.2 M3 g R W T3 E.1 (Z2 + 1) C cm ∧ RBp E.2 M3 g R W T3 E.1 Z0 (Z2 + 1) (8 * C + b) (p0, ij, ss ++ [q]) := by
  refine ⟨?_, RBp.add (hB.cg G3.1 hR (fun z hz => G3.2.2.2.2 z hz) ?_ hT) hq⟩
  · obtain ⟨h1, h2, h3, h4, h5⟩ := hw
    obtain ⟨e1, e2, e3⟩ := G3.2.2.2.1 C (by omega)
    obtain ⟨-, -, -, -, e4, e5⟩ := e3 0 (by omega)
    refine RCw.up (T := T2) (Z := Z2) ?_ (Nat.le_refl _) (Nat.le_refl _) hT (Nat.le_succ _) (fun _ _ => rfl)
    refine RCw.cg ⟨h1, h2, h3, h4, h5⟩ G3.1 hR (fun z hz => G3.2.2.2.2 z hz) e4 e5 e1 e2 (fun b' hb' => ?_)
    obtain ⟨k1, k2, k3, k4, -⟩ := e3 b' (by omega)
    exact ⟨k1, k4, k2, k3⟩
  · obtain ⟨k1, k2, k3, k4, -⟩ := (G3.2.2.2.1 C (by omega)).2.2 b hb
    exact ⟨k1, k4⟩
/-- a branch begins -/
theorem br_putw {i j : Nat} {pl : Int} (h : cI M a g N K R W C E tg T2 Z2 M2) (z2 : mI M2 a 16 = 0) (hb : mI M2 (g + 25) C = (b : Int)) (hb8 : b < 8) (hZ : Z2 ≤ 16385) (hT2 : T2 ≤ 16385) (t1 : T2 ≤ T3) (ip : i32 pl) (Rl : rlR 0 M2 a g N T2 K T3 0 M3) (hp : mI M3 a 16 = 0 → ∀ n, n < T2 → pm M3 g n = pm M2 g n) (z3 : mI M3 a 16 = 0) (hw : RCw E.2 M2 g R W T2 E.1 Z2 C cm) (hr : Rtw E.2 M3 g R W T3 E.1 (T2 : Int) 0 i j) (e4 : M4 = mUI M3 (g + 26) (8 * C + b) (T2 : Int)) (e5 : M5 = mUI M4 (g + 27) (8 * C + b) pl) (e6 : M6 = mUI M5 (g + 28) (8 * C + b) (Z2 : Int)) : RCw E.2 M6 g R W T3 E.1 Z2 C cm ∧ RBp E.2 M6 g R W T3 E.1 Z2 Z2 (8 * C + b) (pl, (i, j), []) := by
  obtain ⟨c3, G3⟩ := h.rl z2 t1 Rl hp
  have G3 := G3 z3
  have D2 := h.2.2.2.2 z2
  have hR := D2.1.1
  have l4 := lsZ.st (Z2 := Z2) (i := 26) c3.1 (i32s (by omega) (by omega)) (by omega) (by decide) (by decide) e4
  obtain ⟨c4, f4, a4, G4⟩ := c3.st (i := 26) (i32s (by omega) (by omega)) (by omega) (by omega) (by decide) (by decide) e4
  have l5 := lsZ.st (Z2 := Z2) (i := 27) c4.1 ip (by omega) (by decide) (by decide) e5
  obtain ⟨c5, f5, a5, G5⟩ := c4.st (i := 27) ip (by omega) (by omega) (by decide) (by decide) e5
  have l6 := lsZ.st (Z2 := Z2) (i := 28) c5.1 (i32s (by omega) (by omega)) (by omega) (by decide) (by decide) e6
  obtain ⟨c6, f6, a6, G6⟩ := c5.st (i := 28) (i32s (by omega) (by omega)) (by omega) (by omega) (by decide) (by decide) e6
  have G36 := (G4.trans G5).trans G6
  have l36 := (l4.trans l5).trans l6
  have hlen := hw.len hb
  have hw3 : RCw E.2 M3 g R W T3 E.1 Z2 C cm := by
    obtain ⟨e1, e2, e3⟩ := G3.2.2.2.1 C (by omega)
    obtain ⟨-, -, -, -, q4, q5⟩ := e3 0 (by omega)
    refine RCw.up (T := T2) (Z := Z2) ?_ (Nat.le_refl _) (Nat.le_refl _) t1 (Nat.le_refl _) (fun _ _ => rfl)
    refine hw.cg G3.1 hR (fun z hz => G3.2.2.2.2 z hz) q4 q5 e1 e2 (fun b' hb' => ?_)
    obtain ⟨k1, k2, k3, k4, -⟩ := e3 b' (by omega)
    exact ⟨k1, k4, k2, k3⟩
  have cell : ∀ i x, (i < 26 ∨ i = 29 ∨ x ≠ 8 * C + b) → mI M6 (g + i) x = mI M3 (g + i) x := fun i x hi => by rw [f6, if_neg (fun z => by omega), f5, if_neg (fun z => by omega), f4, if_neg (fun z => by omega)]
  have v26 : mI M6 (g + 26) (8 * C + b) = (T2 : Int) := by rw [f6, if_neg (fun z => by omega), f5, if_neg (fun z => by omega), f4, if_pos ⟨rfl, rfl⟩]
  have v27 : mI M6 (g + 27) (8 * C + b) = pl := by rw [f6, if_neg (fun z => by omega), f5, if_pos ⟨rfl, rfl⟩]
  refine ⟨hw3.cg G36 hR l36 (cell 22 C (by omega)) (cell 23 C (by omega)) (cell 24 C (by omega)) (cell 25 C (by omega)) (fun b' hb' => ⟨cell 26 _ (by omega), cell 27 _ (by omega), cell 28 _ (by omega), cell 29 _ (by omega)⟩), v27, ?_, rfl, fun i q hq => absurd (show ([] : List (Nat × Nat × Nat × Nat))[i]? = some q from hq) (by simp)⟩
  rw [v26]
  exact hr.gn G36 hR
end RBX
section BRX
variable {G : mG} {d a g R W C T2 T3 Z2 N K : Nat} {M M2 M3 : mM} {E : Eg9} {tg : Int} {nms : List nm9}
theorem RSq.st {i j : Nat} {v : Int} (rs : RSq M2 a g K nms) (L2 : Lc M2 a g N T2 K) (hv : i32 v) (hi : 22 ≤ i ∧ i ≤ 29) (f1 : frO (13 + i)) (f2 : frO (49 + i)) (e : M3 = mUI M2 (g + i) j v) : RSq M3 a g K nms := by
  obtain ⟨L3, I3, -, m3, f3, l3⟩ := gsti L2 hv (by omega) f1 f2 (fun z => by omega) e
  refine rs.eq ((lst3.of m3 (fun _ _ z => z)).q K) ?_ ⟨by rw [l3], by rw [l3]⟩ (I3.sx L2.2.1.1.1 L2.2.2.2.2.2.1)
  funext u
  unfold tn
  rw [show mI M3 (g + 18) = mI M2 (g + 18) from funext (fun x => by rw [f3, if_neg (fun z => by omega)]), show mI M3 (g + 14) = mI M2 (g + 14) from funext (fun x => by rw [f3, if_neg (fun z => by omega)])]
/-- a branch has been read, exactly -/
def brX (M : mM) (a g N K R W C : Nat) (E : Eg9) (tg : Int) (s b : Nat) (nms : List nm9) (S : (Int × Int) × Nat) (cm' : cm9) (x : Int) (M3 : mM) : Prop := brQ M a g N K R W C E tg s x M3 ∧ ((S.1.1 ≠ 0 ∧ fpw M3 a S.1) ∨ (S.1.1 = 0 ∧ S.2 = s ∧ mI M3 a 16 = 0 ∧ mI M3 (g + 25) C = (b : Int) + 1 ∧ RSq M3 a g K nms ∧ ∀ T3 Z3, cI M a g N K R W C E tg T3 Z3 M3 → RCw E.2 M3 g R W T3 E.1 Z3 C cm'))
theorem x_br_end {cm : cm9} {br : br9} {b Z0 s k : Nat} {l8 : Int} {Q : Int → mM → Prop} (hC : C < 60) (hb : b < 8) (h : bI M a g N K R W C E tg b Z0 T2 Z2 M2) (hk : k ≤ N) (hs : mI M2 a 16 = 0 → k = s ∧ T2 ≤ s ∧ Z2 ≤ s) (hZ : Z2 ≤ 16385) (i8 : i32 l8) (h8 : l8 = 0 ∨ ¬ (mI M2 a 16 = 0)) (hB : mI M2 a 16 = 0 → RCw E.2 M2 g R W T2 E.1 Z2 C cm ∧ RBp E.2 M2 g R W T2 E.1 Z0 Z2 (8 * C + b) br) (hQ : ∀ M4, i32 (k : Int) → mOk M4 → brQ M a g N K R W C E tg s k M4 → mI M4 a = mI M2 a → mI M4 (g + 25) C = (b : Int) + 1 → (RSq M2 a g K nms → RSq M4 a g K nms) → (mI M2 a 16 = 0 → ∀ T3 Z3, cI M a g N K R W C E tg T3 Z3 M4 → RCw E.2 M4 g R W T3 E.1 Z3 C (cmA cm br)) → Q k M4) : h_MM_branch0_128 G (d + 8) a C b (8 * C + b : Nat) k l8 M2 Q := by
  have L2 := h.1.1
  have hN := L2.2.1.1.2.2
  have hg := L2.2.2.2.2.2.1
  have w2 := L2.2.1.1.1
  have z30 : mI M2 (g + 30) 1 = (Z2 : Int) := h.1.2.2.2.1.1
  have hZ0 := h.2.2.1
  have b480 : ((0 : Int) ≤ ((8 * C + b : Nat) : Int) ∧ ((8 * C + b : Nat) : Int) < ((480 : Nat) : Int)) := by omega
  have b60 : ((0 : Int) ≤ (C : Int) ∧ (C : Int) < ((60 : Nat) : Int)) := by omega
  refine k_MM_branch0_128 L2.1 (i32s (by omega) (by omega)) (i32s (by omega) (by omega)) (i32s (by omega) (by omega)) (i32s (by omega) (by omega)) i8 ⟨fun _ => w2.1.1, fun _ => ⟨w2.1.1, ?_⟩, fun q => absurd h8 q⟩
  rw [show mR M2 a 10 = g from L2.2.2.2.2.1, show mR M2 g 27 = g + 30 from (w2.gp hg).2.2.1.2.2.2.2.2.2.2.2.2.2.2.2.1, show mR M2 g 25 = g + 28 from (w2.gp hg).2.2.1.2.2.2.2.2.2.2.2.2.2.1, show mR M2 g 26 = g + 29 from (w2.gp hg).2.2.1.2.2.2.2.2.2.2.2.2.2.2.1, z30, Int.toNat_natCast, h.2.1]
  refine ⟨(w2.gp hg).1, (w2.nu (n30 hg)).1, (w2.gp hg).2.2.2.2.2.2.2.2.2.2.2.1.1, by rw [(w2.gp hg).2.2.2.2.2.2.2.2.2.2.2.1.2]; exact b480, (w2.gp hg).2.2.2.2.2.2.2.2.2.2.2.2.1, by rw [(w2.gp hg).2.2.2.2.2.2.2.2.2.2.2.2.2]; exact b480, i32s (by omega) (by omega), fun M3 e3 => ?_⟩
  obtain ⟨c3, f3, a3, G3⟩ := h.1.st (i := 29) (i32s (by omega) (by omega)) (by omega) (by omega) (by decide) (by decide) e3
  have L3 := c3.1
  have w3 := L3.2.1.1.1
  rw [show mR M3 a 10 = g from L3.2.2.2.2.1, show mR M3 g 22 = g + 25 from (w3.gp hg).2.2.1.2.2.2.2.2.2.2.1, Int.toNat_natCast]
  refine ⟨(w3.gp hg).1, (w3.gp hg).2.2.2.2.2.2.2.2.1.1, by rw [(w3.gp hg).2.2.2.2.2.2.2.2.1.2]; exact b60, i32s (by omega) (by omega), fun M4 e4 => ?_⟩
  have key := br_end (x := (k : Int)) hC hb h (by omega) (fun z => ⟨by have := hs z; omega, (hs z).2⟩) hZ e3 e4
  obtain ⟨c4, f4, a4, G4⟩ := c3.st (i := 25) (v := (b : Int) + 1) (i32s (by omega) (by omega)) (by omega) (by omega) (by decide) (by decide) e4
  exact hQ M4 (i32s (by omega) (by omega)) key.1 key.2 (a4.trans a3) (by rw [f4, if_pos ⟨rfl, rfl⟩]) (fun rs => (rs.st (i := 29) L2 (i32s (by omega) (by omega)) (by omega) (by decide) (by decide) e3).st (i := 25) L3 (i32s (by omega) (by omega)) (by omega) (by decide) (by decide) e4) (fun z => br_endw hC hb h z hZ (hB z).1 (hB z).2 e3 e4)
theorem x_br_sets {gm : gm9} {cm : cm9} {p0 : Int} {ij : Nat × Nat} {b Z0 s : Nat} (eγ : E.2 = txg M a N nms gm) (wM : Wd M a) (hC : C < 60) (hb : b < 8) (hsN : s < N) (hg : g = a + 13 ∨ g = a + 49) : ∀ (f f' p T2 Z2 : Nat) (M2 : mM) (seen : List Nat) (ss : List (Nat × Nat × Nat × Nat)), RCw E.2 M2 g R W T2 E.1 Z2 C cm → RBp E.2 M2 g R W T2 E.1 Z0 Z2 (8 * C + b) (p0, ij, ss) → s ≤ p + f' → bI M a g N K R W C E tg b Z0 T2 Z2 M2 → RSq M2 a g K nms → SNq M2 a g K nms Z0 Z2 seen → mI M2 a 16 = 0 → Se (wk M a) f p s → T2 ≤ p → Z2 ≤ p → h_MM_branch0_128 G (d + 8) a C b (8 * C + b : Nat) p 1 M2 (fun x M3 => i32 x ∧ mOk M3 ∧ brX M a g N K R W C E tg s b nms (sef (wk M a) (nt M (a + 7)) (smx M a) N nms f' p seen) (cmA cm (p0, ij, ss ++ sel9 (wk M a) (smx M a) N nms f' p)) x M3) := by
  intro f
  induction f with
  | zero => intro f' p T2 Z2 M2 seen ss _ _ _ _ _ _ _ hs; exact hs.elim
  | succ f ih =>
    intro f' p T2 Z2 M2 seen ss hw hB hf' h rs sn z2 hse hT2 hZ2
    have sgs := hse.sg.1
    obtain ⟨w0, w1, w2', w3, c, he, w4, hnx⟩ := hse
    have L2 := h.1.1
    have hN := L2.2.1.1.2.2
    have w2 := L2.2.1.1.1
    have hlt := he.pr.1
    have hcs : c + 1 ≤ s := by
      rcases hnx with ⟨y, -⟩ | ⟨-, y⟩
      · omega
      · have := y.sg.1; omega
    have wkE := h.1.2.1.wk hg
    have b480 : ((0 : Int) ≤ ((8 * C + b : Nat) : Int) ∧ ((8 * C + b : Nat) : Int) < ((480 : Nat) : Int)) := by omega
    have cN : c < N := by omega
    have c1N : c + 1 < N := by omega
    have tm : c - (p + 4) ≤ c - (p + 4) := Nat.le_refl _
    have hZ16 : Z2 ≤ 16384 := by omega
    have hZ0 := h.2.2.1
    obtain ⟨f', rfl⟩ : ∃ f2, f' = f2 + 1 := ⟨f' - 1, by omega⟩
    have eS := sef_s (pl := nt M (a + 7)) (sm := smx M a) (nms := nms) (seen := seen) (f := f') (cpq_at he w4 cN)
    generalize sef (wk M a) (nt M (a + 7)) (smx M a) N nms (f' + 1) p seen = S at eS ⊢
    have eL : sel9 (wk M a) (smx M a) N nms (f' + 1) p = (vix9 (smx M a) nms (p + 1), p + 4, c, p) :: (if wk M a (c + 1) = 29 then sel9 (wk M a) (smx M a) N nms f' (c + 2) else []) := by rw [sel9, cpq_at he w4 cN]
    generalize sel9 (wk M a) (smx M a) N nms (f' + 1) p = SL at eL ⊢
    refine k_MM_branch0_128 L2.1 (i32s (by omega) (by omega)) (i32s (by omega) (by omega)) (i32s (by omega) (by omega)) (i32s (by omega) (by omega)) ⟨by decide, by decide⟩ ⟨fun _ => w2.1.1, fun q => ?_, fun _ => ⟨w2.1.1, ?_⟩⟩
    · rcases q with q | q
      · exact absurd q (by decide)
      · exact absurd z2 q
    rw [show mR M2 a 10 = g from L2.2.2.2.2.1, show mR M2 g 25 = g + 28 from (w2.gp hg).2.2.1.2.2.2.2.2.2.2.2.2.2.1, Int.toNat_natCast, h.2.1]
    refine ⟨(w2.gp hg).1, (w2.gp hg).2.2.2.2.2.2.2.2.2.2.2.1.1, by rw [(w2.gp hg).2.2.2.2.2.2.2.2.2.2.2.1.2]; exact b480, ?_⟩
    refine (x_MM_setItem (d := d) eγ wM h.1 rs sn z2 w0 w1 w2' w3 he w4 cN hT2 hZ16 hZ0 tm).mono (fun x M3 t3 => ?_)
    obtain ⟨ix, o3, ⟨hx, m3, T3, Z3, c3, ⟨t1, t2, t3', t4⟩, k3⟩, sx⟩ := t3
    have B3 := h.si (c := c) (Tm := 0) z2 m3 c3 t1 t3' (fun z => (k3 z).2) hb
    have L3 := c3.1
    have w3 := L3.2.1.1.1
    have wkE3 := c3.2.1.wk hg
    have hT3 : T3 ≤ c + 1 := by omega
    have hZ3 : Z3 ≤ c + 1 := by omega
    refine ⟨ix, o3, w3.1.1, ?_⟩
    obtain ⟨y, hy, hyN⟩ : ∃ y : Nat, x = (y : Int) ∧ y + 1 ≤ N := by
      rcases hx with z | z
      · exact ⟨c, z, by omega⟩
      · exact ⟨c + 1, z, by omega⟩
    have k3' : mI M3 a 16 = 0 → y = c + 1 := fun z => by have := (k3 z).1; omega
    have hG3 : mI M3 a 16 = 0 → Ge M2 g R W (C + 1) Z2 T2 M3 := fun z => (k3 z).2
    have hT23 : T2 ≤ T3 := t1
    clear hx k3 t1 t2 t3' t4 sgs
    subst hy
    refine L3.wd (d := d + 7) (by omega) (fun u hu iu => ⟨iu, L3.1, fun v hv v' hv' => ?_⟩)
    rw [wkE3] at hu
    by_cases z3 : mI M3 a 16 = 0
    · have ey := k3' z3
      subst ey
      obtain ⟨u1, -, u3, u4, ⟨e, u5, u6⟩, u9⟩ : (stf (wk M a) (nt M (a + 7)) (smx M a) nms p c seen).1 = 0 ∧ mI M3 a 16 = 0 ∧ RSq M3 a g K nms ∧ ln M3 (g + 30) = (Z2 + 1 : Nat) ∧ (∃ e, fnd9 (smx M a) nms (p + 1) = some e ∧ SNq M3 a g K nms Z0 (Z2 + 1) (e.1 :: seen)) ∧ ∀ T3, Lc M3 a g N T3 K → RSs E.2 M3 g R W T3 E.1 Z2 (vix9 (smx M a) nms (p + 1), p + 4, c, p) := by
        rcases sx with ⟨y1, y2⟩ | y
        · exact absurd (y2.1.symm.trans z3) y1
        · exact y
      have eZ : Z3 = Z2 + 1 := by have := c3.2.2.2.1.1; omega
      subst eZ
      obtain ⟨hw3, hB3⟩ := br_siw (h.1.2.2.2.2 z2).1.1 hw hB hb hT23 (hG3 z3) (u9 T3 L3)
      rw [if_neg (fun z => z u1), u5] at eS
      simp only [] at eS
      rcases hnx with ⟨e1, e2⟩ | ⟨e1, e2⟩
      · rw [if_neg (fun q => e2 (hu.symm.trans q))] at hv
        subst hv
        rw [if_pos rfl] at hv'
        subst hv'
        rw [if_neg e2] at eS eL
        subst eL
        refine x_br_end (nms := nms) hC hb B3 (by omega) (fun _ => by omega) (by omega) ⟨by decide, by decide⟩ (Or.inl rfl) (fun _ => ⟨hw3, hB3⟩) (fun M4 i4 o4 bq aI r25 rsq rcw => ⟨i4, o4, bq, Or.inr ⟨by rw [eS], by rw [eS]; exact e1.symm, by rw [aI]; exact z3, r25, rsq u3, rcw z3⟩⟩)
      · rw [if_pos (hu.trans e1)] at hv
        subst hv
        rw [if_neg (by decide)] at hv'
        subst hv'
        rw [show ((c + 1 : Nat) : Int) + 1 = ((c + 2 : Nat) : Int) by omega]
        rw [if_pos e1] at eS eL
        subst eL
        have key := ih f' (c + 2) T3 (Z2 + 1) M3 (e.1 :: seen) _ hw3 hB3 (by omega) B3 u3 u6 z3 e2 (by omega) (by omega)
        rw [List.append_assoc] at key
        rw [eS]
        exact key
    · have v01 : v = 0 ∨ v = 1 := by split at hv <;> omega
      obtain ⟨u1, u2⟩ : (stf (wk M a) (nt M (a + 7)) (smx M a) nms p c seen).1 ≠ 0 ∧ fpw M3 a (stf (wk M a) (nt M (a + 7)) (smx M a) nms p c seen) := by
        rcases sx with y | y
        · exact y
        · exact absurd y.2.1 z3
      rw [if_pos u1] at eS
      obtain ⟨k', hk', hkN⟩ : ∃ k' : Nat, v' = (k' : Int) ∧ k' ≤ N := by
        by_cases q : v = 0
        · rw [if_pos q] at hv'; exact ⟨y, hv', by omega⟩
        · rw [if_neg q] at hv'; exact ⟨y + 1, by omega, by omega⟩
      subst hk'
      refine x_br_end (nms := nms) (cm := cm) (br := (p0, ij, ss)) hC hb B3 hkN (fun q => absurd q z3) (by omega) (i32s (by omega) (by omega)) (Or.inr z3) (fun z => absurd z z3) (fun M4 i4 o4 bq aI r25 rsq _ => ⟨i4, o4, bq, Or.inl ?_⟩)
      rw [eS]
      exact ⟨u1, by rw [aI]; exact u2.1, by rw [aI]; exact u2.2⟩
theorem x_MM_branch0 {gm : gm9} {cm : cm9} {p q s e b : Nat} (eγ : E.2 = txg M a N nms gm) (hw : RCw E.2 M2 g R W T2 E.1 Z2 C cm) (wM : Wd M a) (h : cI M a g N K R W C E tg T2 Z2 M2) (rs : RSq M2 a g K nms) (z2 : mI M2 a 16 = 0) (hcc : Cc M2 g R W T2 E.1 Z2 C) (hb : mI M2 (g + 25) C = (b : Int)) (hC : C < 60) (he5 : Eo (wk M a) 5 p q) (w33 : wk M a q = 33) (hss : Ss (wk M a) (q + 1) s) (hsN : s < N) (heN : e < N) (hT2 : T2 ≤ p) (hZ2 : Z2 ≤ p) : Ci G y_MM_branch0 (d + 9) [vr a, vi C, vi p, vi e] M2 (fun x M3 => i32 x ∧ mOk M3 ∧ brX M a g N K R W C E tg s b nms (brS (wk M a) (nt M (a + 7)) (smx M a) N nms b p q) (cmA cm (brw (wk M a) (nt M (a + 7)) (smx M a) N nms p q)) x M3) := by
  have L2 := h.1
  have hN := L2.2.1.1.2.2
  have hg := L2.2.2.2.2.2.1
  have w2 := L2.2.1.1.1
  have hlt := he5.pr.1
  have hqs := hss.sg.1
  have wkE := h.2.1.wk hg
  have sx2 := h.2.1.sx wM hg
  have hb8 : b ≤ 8 := by have := hcc.2.2.1; omega
  have b60 : ((0 : Int) ≤ (C : Int) ∧ (C : Int) < ((60 : Nat) : Int)) := by omega
  have ie : i32 (e : Int) := i32s (by omega) (by omega)
  have pN : p < N := by omega
  have qN : q < N := by omega
  have q1N : q + 1 < N := by
    rcases hss with ⟨-, y⟩ | ⟨-, f, y⟩
    · omega
    · cases f with
      | zero => exact y.elim
      | succ f =>
        obtain ⟨-, -, -, -, c, y1, -, y2⟩ := y
        have := y1.pr.1
        rcases y2 with ⟨y2, -⟩ | ⟨-, y2⟩
        · omega
        · have := y2.sg.1; omega
  refine k_MM_branch0 L2.1 (i32s (by omega) (by omega)) (i32s (by omega) (by omega)) ie ?_
  rw [show mR M2 a 10 = g from L2.2.2.2.2.1, show mR M2 g 22 = g + 25 from (w2.gp hg).2.2.1.2.2.2.2.2.2.2.1, Int.toNat_natCast, hb]
  refine ⟨w2.1.1, (w2.gp hg).1, (w2.gp hg).2.2.2.2.2.2.2.2.1.1, by rw [(w2.gp hg).2.2.2.2.2.2.2.2.1.2]; exact b60, fun q8 => ?_, fun q8 => ?_⟩
  · refine (s_MM_place0 (d := d + 7) L2.1 L2.2.1 pN).mono (fun y M5 h5 => ?_)
    obtain ⟨e5, hy⟩ := h5
    subst e5
    have hy32 : i32 y := by rw [hy]; exact (L2.1 _ _).1
    refine ⟨hy32, L2.1, w2.1.1, (s_MM_stop ⟨by decide, by decide⟩ hy32 L2.1 w2).mono (fun M6 h6 => ⟨h6.1.1, ie, h6.1.1, ⟨by omega, ?_⟩, Or.inl ?_⟩)⟩
    rotate_left
    · have b8 : b = 8 := by omega
      unfold brS
      rw [if_pos b8]
      exact ⟨by simp, h6.2.1, by rw [h6.2.2.1, hy, sx2.2.1]⟩
    obtain ⟨-, -, T3, Z3, c3, -, -⟩ := si_stop (c := 0) (Tm := 0) h (by decide) h6
    exact ⟨T3, Z3, c3, fun z => by rw [h6.2.1] at z; exact absurd z (by decide)⟩
  · have hb7 : b < 8 := by omega
    have eB : brS (wk M a) (nt M (a + 7)) (smx M a) N nms b p q = bsf (wk M a) (nt M (a + 7)) (smx M a) N nms p q := if_neg (by omega)
    rw [eB]
    have eS : bsf (wk M a) (nt M (a + 7)) (smx M a) N nms p q = if (rf9 (wk M a) (nt M (a + 7)) (smx M a) nms 0 0 p q).1 ≠ 0 then (rf9 (wk M a) (nt M (a + 7)) (smx M a) nms 0 0 p q, 0) else if wk M a (q + 1) = 10 then ((0, 0), q + 2) else sef (wk M a) (nt M (a + 7)) (smx M a) N nms N (q + 1) [] := rfl
    generalize bsf (wk M a) (nt M (a + 7)) (smx M a) N nms p q = S at eS ⊢
    have e8 : 8 * (C : Int) + (b : Int) = ((8 * C + b : Nat) : Int) := by omega
    have b480 : ((0 : Int) ≤ ((8 * C + b : Nat) : Int) ∧ ((8 * C + b : Nat) : Int) < ((480 : Nat) : Int)) := by omega
    rw [e8]
    refine L2.ub (d := d + 6) (by omega) (by rw [wkE]; exact he5.pr.2.2.2.2.1) qN (by rw [wkE]; exact w33) (Or.inr (Or.inr rfl)) ⟨i32s (by omega) (by omega), L2.1, w2.1.1, ?_⟩
    rw [show mR M2 a 10 = g from L2.2.2.2.2.1, show mR M2 g 23 = g + 26 from (w2.gp hg).2.2.1.2.2.2.2.2.2.2.2.1]
    refine ⟨(w2.gp hg).1, (x_crule (d := d + 1) eγ h rs z2 wM (Or.inl rfl) (by omega) (he5.six (by omega)) qN).mono (fun x M3 q3 => ?_)⟩
    obtain ⟨ex, T3, t1, t2, Rl, hp, qx⟩ := q3
    generalize rf9 (wk M a) (nt M (a + 7)) (smx M a) nms 0 0 p q = F at eS qx
    subst ex
    have iT : i32 (T2 : Int) := i32s (by omega) (by omega)
    have hZ16 : Z2 ≤ 16385 := by omega
    have hT16 : T2 ≤ 16385 := by omega
    have hTs : T3 ≤ q := by omega
    have hZs : Z2 ≤ q := by omega
    have iq2 : i32 ((q : Int) + 1 + 1) := i32s (by omega) (by omega)
    have hqi : 0 ≤ (q : Int) + 1 + 1 ∧ (q : Int) + 1 + 1 ≤ N := by omega
    have ib1 : i32 ((b : Int) + 1) := i32s (by omega) (by omega)
    have b60' := b60
    have t1' := Nat.le_of_lt t1
    have iZ0 : i32 ((Z2 : Int) - Z2) := i32s (by omega) (by omega)
    obtain ⟨c3, -⟩ := h.rl z2 t1' Rl hp
    have L3 := c3.1
    have w3 := L3.2.1.1.1
    clear hqs hlt t2 t1 hN
    refine ⟨iT, L3.1, (w3.gp hg).2.2.2.2.2.2.2.2.2.1.1, by rw [(w3.gp hg).2.2.2.2.2.2.2.2.2.1.2]; exact b480, fun M4 e4 => ?_⟩
    rw [Int.toNat_natCast] at e4
    have P := fun (M5 M6 : mM) (pl : Int) (ip : i32 pl) e5 e6 => br_put (M5 := M5) (M6 := M6) h z2 hcc hb hb7 hZ16 hT16 t1' ip Rl hp e4 e5 e6
    have c4 := (P _ _ 0 ⟨by decide, by decide⟩ rfl rfl).2.1.1
    have L4 := c4.1
    have w4 := L4.2.1.1.1
    rw [show mR M4 a 10 = g from L4.2.2.2.2.1, show mR M4 g 24 = g + 27 from (w4.gp hg).2.2.1.2.2.2.2.2.2.2.2.2.1]
    refine ⟨w4.1.1, (w4.gp hg).1, (s_MM_place0 (d := d + 7) L4.1 L4.2.1 pN).mono (fun y M5 h5 => ?_)⟩
    obtain ⟨e5, hy⟩ := h5
    subst e5
    have hy32 : i32 y := by rw [hy]; exact (L4.1 _ _).1
    refine ⟨hy32, L4.1, (w4.gp hg).2.2.2.2.2.2.2.2.2.2.1.1, by rw [(w4.gp hg).2.2.2.2.2.2.2.2.2.2.1.2]; exact b480, fun M6 e6 => ?_⟩
    rw [Int.toNat_natCast] at e6
    have c6 := (P M6 _ y hy32 e6 rfl).2.1.2
    have L6 := c6.1
    have w6 := L6.2.1.1.1
    have z30 : mI M6 (g + 30) 1 = (Z2 : Int) := c6.2.2.2.1.1
    rw [show mR M6 a 10 = g from L6.2.2.2.2.1, show mR M6 g 27 = g + 30 from (w6.gp hg).2.2.1.2.2.2.2.2.2.2.2.2.2.2.2.1, show mR M6 g 25 = g + 28 from (w6.gp hg).2.2.1.2.2.2.2.2.2.2.2.2.2.1, z30]
    refine ⟨w6.1.1, (w6.gp hg).1, (w6.nu (n30 hg)).1, (w6.gp hg).2.2.2.2.2.2.2.2.2.2.2.1.1, by rw [(w6.gp hg).2.2.2.2.2.2.2.2.2.2.2.1.2]; exact b480, fun M7 e7 => ?_⟩
    rw [Int.toNat_natCast] at e7
    obtain ⟨B7, -, a7⟩ := P M6 M7 y hy32 e6 e7
    have hyp : y = nt M (a + 7) p := by rw [hy, (c4.2.1.sx wM hg).2.1]
    have W7 : mI M3 a 16 = 0 → Rtw E.2 M3 g R W T3 E.1 (T2 : Int) 0 p q → RCw E.2 M7 g R W T3 E.1 Z2 C cm ∧ RBp E.2 M7 g R W T3 E.1 Z2 Z2 (8 * C + b) (nt M (a + 7) p, (p, q), []) := fun z hr => by
      rw [← hyp]
      exact br_putw h z2 hb hb7 hZ16 hT16 t1' hy32 Rl hp z hw hr e4 e6 e7
    have rs7 : RSq M3 a g K nms → RSq M7 a g K nms := fun r3 => ((r3.st (i := 26) L3 iT (by omega) (by decide) (by decide) e4).st (i := 27) L4 hy32 (by omega) (by decide) (by decide) e6).st (i := 28) L6 (i32s (by omega) (by omega)) (by omega) (by decide) (by decide) e7
    have L7 := B7.1.1
    have w7 := L7.2.1.1.1
    have wkE7 := B7.1.2.1.wk hg
    rw [show (q : Int) + 1 = ((q + 1 : Nat) : Int) by omega]
    refine L7.wd (d := d + 7) q1N (fun u hu iu => ⟨iu, L7.1, fun q10 => ⟨w7.1.1, ?_⟩, fun q10 => ?_⟩)
    · rw [wkE7] at hu
      have es : s = q + 2 := by
        rcases hss with ⟨-, y⟩ | ⟨y, -⟩
        · omega
        · exact absurd (hu.symm.trans q10) y
      have z30' : mI M7 (g + 30) 1 = (Z2 : Int) := B7.1.2.2.2.1.1
      rw [show mR M7 a 10 = g from L7.2.2.2.2.1, show mR M7 g 27 = g + 30 from (w7.gp hg).2.2.1.2.2.2.2.2.2.2.2.2.2.2.2.1, show mR M7 g 25 = g + 28 from (w7.gp hg).2.2.1.2.2.2.2.2.2.2.2.2.2.1, show mR M7 g 26 = g + 29 from (w7.gp hg).2.2.1.2.2.2.2.2.2.2.2.2.2.2.1, z30', Int.toNat_natCast, B7.2.1]
      refine ⟨(w7.gp hg).1, (w7.nu (n30 hg)).1, (w7.gp hg).2.2.2.2.2.2.2.2.2.2.2.1.1, by rw [(w7.gp hg).2.2.2.2.2.2.2.2.2.2.2.1.2]; exact b480, (w7.gp hg).2.2.2.2.2.2.2.2.2.2.2.2.1, by rw [(w7.gp hg).2.2.2.2.2.2.2.2.2.2.2.2.2]; exact b480, iZ0, fun M8 e8 => ?_⟩
      obtain ⟨c8, f8, a8, G8⟩ := B7.1.st (i := 29) iZ0 (by omega) (by omega) (by decide) (by decide) e8
      have L8 := c8.1
      have w8 := L8.2.1.1.1
      rw [show mR M8 a 10 = g from L8.2.2.2.2.1, show mR M8 g 22 = g + 25 from (w8.gp hg).2.2.1.2.2.2.2.2.2.2.1]
      refine ⟨(w8.gp hg).1, (w8.gp hg).2.2.2.2.2.2.2.2.1.1, by rw [(w8.gp hg).2.2.2.2.2.2.2.2.1.2]; exact b60', ib1, fun M9 e9 => ?_⟩
      rw [show ((q + 1 : Nat) : Int) + 1 = (q : Int) + 1 + 1 by omega]
      have key := br_end (x := (q : Int) + 1 + 1) (s := s) hC hb7 B7 hqi (fun _ => by omega) hZ16 e8 e9
      obtain ⟨c9, f9, a9, G9⟩ := c8.st (i := 25) ib1 (by omega) (by omega) (by decide) (by decide) e9
      have aI : mI M9 a = mI M3 a := by rw [a9, a8, a7]
      refine ⟨iq2, key.1, key.2, ?_⟩
      rcases qx with ⟨u1, u2⟩ | ⟨u1, u2, u3, u9⟩
      · rw [if_pos u1] at eS
        rw [eS]
        exact Or.inl ⟨u1, by rw [aI]; exact u2.1, by rw [aI]; exact u2.2⟩
      · rw [if_neg (fun z => z u1), if_pos (hu.symm.trans q10)] at eS
        rw [eS]
        obtain ⟨w7a, w7b⟩ := W7 u2 u9
        have eb : brw (wk M a) (nt M (a + 7)) (smx M a) N nms p q = (nt M (a + 7) p, (p, q), []) := by
          unfold brw
          rw [if_pos (hu.symm.trans q10)]
        rw [eb]
        exact Or.inr ⟨rfl, es.symm, by rw [aI]; exact u2, by rw [f9, if_pos ⟨rfl, rfl⟩], ((rs7 u3).st (i := 29) L7 iZ0 (by omega) (by decide) (by decide) e8).st (i := 25) L8 ib1 (by omega) (by decide) (by decide) e9, br_endw hC hb7 B7 (by rw [a7]; exact u2) hZ16 w7a w7b e8 e9⟩
    · rw [wkE7] at hu
      obtain ⟨f, se⟩ : ∃ f, Se (wk M a) f (q + 1) s := by
        rcases hss with ⟨y, -⟩ | ⟨-, y⟩
        · exact absurd (hu.trans y) q10
        · exact y
      have n10 : ¬ wk M a (q + 1) = 10 := fun z => q10 (hu.trans z)
      by_cases z7 : mI M7 a 16 = 0
      · rcases qx with ⟨u1, u2⟩ | ⟨u1, u2, u3, u9⟩
        · rw [a7, u2.1] at z7; exact absurd z7 u1
        · rw [if_neg (fun z => z u1), if_neg n10] at eS
          rw [eS]
          obtain ⟨w7a, w7b⟩ := W7 u2 u9
          have eb : brw (wk M a) (nt M (a + 7)) (smx M a) N nms p q = (nt M (a + 7) p, (p, q), [] ++ sel9 (wk M a) (smx M a) N nms N (q + 1)) := by
            unfold brw
            rw [if_neg n10]
            rfl
          rw [eb]
          exact x_br_sets eγ wM hC hb7 hsN hg f N (q + 1) T3 Z2 M7 [] [] w7a w7b (by omega) B7 (rs7 u3) SNq.nil z7 se (by omega) (by omega)
      · rcases qx with ⟨u1, u2⟩ | ⟨u1, u2, u3⟩
        · rw [if_pos u1] at eS
          refine x_br_end (nms := nms) (cm := cm) (br := (0, (0, 0), [])) hC hb7 B7 (by omega) (fun y => absurd y z7) hZ16 ⟨by decide, by decide⟩ (Or.inr z7) (fun z => absurd z z7) (fun M9 i9 o9 bq aI r25 rsq _ => ⟨i9, o9, bq, Or.inl ?_⟩)
          rw [eS]
          exact ⟨u1, by rw [aI, a7]; exact u2.1, by rw [aI, a7]; exact u2.2⟩
        · rw [a7] at z7; exact absurd u2 z7
end BRX
end
section
/-! The reference's commands, exactly. -/
section CXP
variable {w pl : Nat → Int} {sm : Nat → Nat → Prop} {N k e j p q b f mc : Nat} {nms : List nm9} {s : st9}
theorem brf_s (hq : clq w (p - 1) N = q) (hpe : ¬ e ≤ p) : brf w pl sm N nms e (f + 1) p b = if (brS w pl sm N nms b p q).1.1 ≠ 0 then (brS w pl sm N nms b p q).1 else brf w pl sm N nms e f ((brS w pl sm N nms b p q).2 + 1) (b + 1) := by
  rw [brf, if_neg hpe, hq]
  unfold brS
  by_cases c : b = 8
  · rw [if_pos c, if_pos c, if_pos (by simp)]
  · rw [if_neg c, if_neg c]
    unfold bsf
    by_cases c1 : (rf9 w pl sm nms 0 0 p q).1 ≠ 0
    · rw [if_pos c1, if_pos c1, if_pos c1]
    · rw [if_neg c1, if_neg c1]
      by_cases c2 : w (q + 1) = 10
      · rw [if_pos c2, if_pos c2, if_neg (by simp)]
      · rw [if_neg c2, if_neg c2]
theorem brf_e (hpe : e ≤ p) : brf w pl sm N nms e f p b = (0, 0) := by
  cases f with
  | zero => rfl
  | succ f => rw [brf, if_pos hpe]
theorem brs_s (hq : clq w (p - 1) N = q) (hpe : ¬ e ≤ p) (h0 : (brS w pl sm N nms b p q).1.1 = 0) : brs9 w pl sm N nms e (f + 1) p = brw w pl sm N nms p q :: brs9 w pl sm N nms e f ((brS w pl sm N nms b p q).2 + 1) := by
  rw [brs9, if_neg hpe, hq]
  unfold brS at h0 ⊢
  by_cases c : b = 8
  · rw [if_pos c] at h0
    exact absurd h0 (by simp)
  · rw [if_neg c] at h0 ⊢
    unfold bsf at h0 ⊢
    by_cases c1 : (rf9 w pl sm nms 0 0 p q).1 ≠ 0
    · rw [if_pos c1] at h0
      exact absurd h0 c1
    · rw [if_neg c1]
      unfold brw
      by_cases c2 : w (q + 1) = 10
      · rw [if_pos c2, if_pos c2, if_pos c2]
      · rw [if_neg c2, if_neg c2, if_neg c2]
theorem itc_many (h : s.2.1.2.2.1 = mc) : (itc w pl sm N mc k e s).2.2 = (5, pl k) := by
  unfold itc
  simp only []
  rw [if_pos h]
theorem itc_f (h : s.2.1.2.2.1 ≠ mc) (hr : nxq w 17 N (k + 1) = j) (h3 : (fst9 (rf9 w pl sm s.1 0 1 (k + 1) j) (brf w pl sm N s.1 e N (j + 1) 0)).1 ≠ 0) : (itc w pl sm N mc k e s).2.2 = fst9 (rf9 w pl sm s.1 0 1 (k + 1) j) (brf w pl sm N s.1 e N (j + 1) 0) := by
  unfold itc
  simp only [hr]
  rw [if_neg h, if_pos h3]
theorem itc_ok (h : s.2.1.2.2.1 ≠ mc) (hr : nxq w 17 N (k + 1) = j) (h3 : (fst9 (rf9 w pl sm s.1 0 1 (k + 1) j) (brf w pl sm N s.1 e N (j + 1) 0)).1 = 0) : itc w pl sm N mc k e s = (s.1, (s.2.1.1, s.2.1.2.1, s.2.1.2.2.1 + 1, s.2.1.2.2.2), (0, 0)) := by
  unfold itc
  simp only [hr]
  rw [if_neg h, if_neg (fun z => z h3)]
end CXP
section CXA
variable {G : mG} {d a g R W C T Z T2 Z2 N K : Nat} {M M2 M3 : mM} {E : Eg9} {tg : Int} {s s' : st9}
/-- a cell of the game's own is set: the names stay -/
theorem RSq.own {i : Nat} {v : Int} {nms : List nm9} (rs : RSq M2 a g K nms) (L2 : Lc M2 a g N T2 K) (hv : i32 v) (e : M3 = mUI M2 g i v) : RSq M3 a g K nms := by
  have hg := L2.2.2.2.2.2.1
  have w2 := L2.2.1.1.1
  have a0 := goff0 hg
  obtain ⟨m1, f1, l1⟩ := mv_cell hv L2.1 w2 (show a ≤ g by omega) ⟨a0.1, a0.2.1, a0.2.2.1⟩ e
  have no : ∀ q : Nat, False → q ∈ nums a := fun _ z => z.elim
  have aI1 := (m1.fld w2 no (by omega)).1
  have sx1 : SXq M2 a M3 := (iF.mk (g := g) w2 m1 (fun _ z => z.elim) (fun x z => Or.inr (Or.inl (by omega))) (fun i _ _ _ => by rw [aI1])).sx w2 hg
  refine rs.eq ((lst3.of m1 (fun _ _ z => z)).q K) ?_ ⟨by rw [l1], by rw [l1]⟩ sx1
  funext u
  unfold tn
  rw [show mI M3 (g + 18) = mI M2 (g + 18) from funext (fun x => by rw [f1, if_neg (fun z => by omega)]), show mI M3 (g + 14) = mI M2 (g + 14) from funext (fun x => by rw [f1, if_neg (fun z => by omega)])]
theorem x_ci_end0 {gm : gm9} {cm : cm9} {e : Nat} (eγ : E.2 = txg M a N s.1 gm) (h0 : Df M a g N T K R W C Z E tg) (hC : C < 60) (h : cI M a g N K R W C E tg T2 Z2 M2) (hc : mI M2 a 16 = 0 → Cc M2 g R W T2 E.1 Z2 C ∧ T2 ≤ e ∧ Z2 ≤ e ∧ RCw E.2 M2 g R W T2 E.1 Z2 C cm) (rs : mI M2 a 16 = 0 → RSq M2 a g K s.1) (flt : mI M2 a 16 ≠ 0 → s'.2.2.1 ≠ 0 ∧ fpw M2 a s'.2.2) (good : mI M2 a 16 = 0 → s' = (s.1, (W, R, C + 1, if tg = -1 then 0 else 1), (0, 0))) (e3 : M3 = mUI M2 g 18 ((C : Int) + 1)) : mOk M3 ∧ itX M a g N e s' (gm.1, gm.2.1, gm.2.2 ++ [cm]) M3 := by
  obtain ⟨hL, ⟨g6, g12, g18, g17⟩, -, hK, hD⟩ := h0
  have wM := hL.2.1.1.1
  obtain ⟨L2, I2, ⟨g2, q6, q12⟩, ⟨z30, z32, z34⟩, D2⟩ := h
  have hg := L2.2.2.2.2.2.1
  have hB := L2.2.2.2.2.2.2.1
  have w2 := L2.2.1.1.1
  have a0 := goff0 hg
  obtain ⟨m1, f1, l1⟩ := mv_cell (v := (C : Int) + 1) (i32s (by omega) (by omega)) L2.1 w2 (show a ≤ g by omega) ⟨a0.1, a0.2.1, a0.2.2.1⟩ e3
  have no : ∀ q : Nat, False → q ∈ nums a := fun _ z => z.elim
  have aI1 := (m1.fld w2 no (by omega)).1
  have n18 : ∀ i, i ≠ 18 → mI M3 g i = mI M2 g i := fun i hi => by rw [f1, if_neg (fun z => hi z.2)]
  have x18 : mI M3 g 18 = (C : Int) + 1 := by rw [f1, if_pos ⟨rfl, rfl⟩]
  have L3 : Lc M3 a g N T2 K := L2.mv m1 no (fun _ z => z.elim) (by rw [n18 6 (by omega)]; omega) (by rw [n18 12 (by omega)]; omega) (by rw [n18 6 (by omega), n18 12 (by omega)]; omega) (fun r _ => by rw [f1, if_neg (fun z => by omega)])
  have ss : ∀ {q}, q ∈ nums a → sameN M2 M3 q := fun hq => m1.lst hq (fun z => z)
  have I3 : iF M a g M3 := I2.trans (iF.mk w2 m1 (fun _ z => z.elim) (fun x z => Or.inr (Or.inl (by omega))) (fun i _ _ _ => by rw [aI1]))
  refine ⟨m1.1, I3, ?_⟩
  by_cases z : mI M3 a 16 = 0
  · have z2 : mI M2 a 16 = 0 := by rw [← aI1]; exact z
    obtain ⟨c1, c2, c3, c9⟩ := hc z2
    have G3 : Ge M2 g R W (C + 1) Z2 T2 M3 := ge_mv w2 hg m1 no (fun z => z) (fun z => z) (fun z => z) (fun i i1 i2 (z : g + i = g) => by omega) (fun n _ => ⟨(ss (tL_in (q := g + 1) hg (tLk1 g))).2.1 n, (ss (tL_in (q := g + 7) hg (tLk7 g))).2.1 n, (ss (tL_in (q := g + 9) hg (tLk9 g))).2.1 n, (ss (tL_in (q := g + 11) hg (tLk11 g))).2.1 n, (ss (tL_in (q := g + 3) hg (tLk3 g))).2.1 n⟩)
    have u1 := good z2
    exact Or.inr ⟨by rw [u1], z, T2, K, R, W, C + 1, Z2, (E.1, gWs E.2 E.2.2.2.2.2.2.1 (E.2.2.2.2.2.2.2.1, E.2.2.2.2.2.2.2.2.1, E.2.2.2.2.2.2.2.2.2 ++ [cm])), tg, ⟨L3, ⟨by rw [n18 6 (by omega)]; exact q6, by rw [n18 12 (by omega)]; exact q12, by rw [x18]; omega, by rw [n18 17 (by omega), g2]; exact g17⟩, ⟨by rw [(ss (n30 hg)).1]; exact z30, by rw [(ss (n32 hg)).1]; exact z32, by rw [(ss (n34 hg)).1]; exact z34⟩, hK, ((D2 z2).cu (E' := (E.1, gWs E.2 E.2.2.2.2.2.2.1 (E.2.2.2.2.2.2.2.1, E.2.2.2.2.2.2.2.2.1, E.2.2.2.2.2.2.2.2.2 ++ [cm]))) hC rfl ((D2 z2).2.2.2.2.2.2.2.cu c9) c1).ge G3⟩, ⟨c2, c3⟩, by rw [u1]; exact (rs z2).own L2 (i32s (by omega) (by omega)) e3, by rw [u1], by rw [u1, (I3.sx wM hg).tx9]; show gWs E.2 _ _ = _; rw [eγ]; rfl⟩
  · obtain ⟨u1, u2⟩ := flt (by rw [← aI1]; exact z)
    exact Or.inl ⟨u1, by rw [aI1]; exact u2.1, by rw [aI1]; exact u2.2⟩
theorem x_ci_end {gm : gm9} {cm : cm9} {e : Nat} {p : Int} (eγ : E.2 = txg M a N s.1 gm) (h0 : Df M a g N T K R W C Z E tg) (hC : C < 60) (h : cI M a g N K R W C E tg T2 Z2 M2) (heN : e < N) (hc : mI M2 a 16 = 0 → Cc M2 g R W T2 E.1 Z2 C ∧ T2 ≤ e + 1 ∧ Z2 ≤ e + 1 ∧ RCw E.2 M2 g R W T2 E.1 Z2 C cm) (rs : mI M2 a 16 = 0 → RSq M2 a g K s.1) (flt : mI M2 a 16 ≠ 0 → s'.2.2.1 ≠ 0 ∧ fpw M2 a s'.2.2) (good : mI M2 a 16 = 0 → s' = (s.1, (W, R, C + 1, if tg = -1 then 0 else 1), (0, 0))) (ip : i32 p) (hp : ¬ (mI M2 a 16 = 0) ∨ (e : Int) ≤ p) : h_MM_commandItem_116 G (d + 9) a e C p M2 (fun M' => mOk M' ∧ itX M a g N (e + 1) s' (gm.1, gm.2.1, gm.2.2 ++ [cm]) M') := by
  have L2 := h.1
  have hN := L2.2.1.1.2.2
  have hg := L2.2.2.2.2.2.1
  have w2 := L2.2.1.1.1
  refine k_MM_commandItem_116 L2.1 (i32s (by omega) (by omega)) (i32s (by omega) (by omega)) ip ⟨w2.1.1, fun _ => ?_, fun q => absurd hp q⟩
  rw [show mR M2 a 10 = g from L2.2.2.2.2.1]
  exact ⟨(w2.gp hg).1, i32s (by omega) (by omega), fun M3 e3 => x_ci_end0 eγ h0 hC h hc rs flt good e3⟩
theorem x_ci_run {gm : gm9} {e : Nat} (eγ : E.2 = txg M a N s.1 gm) (h0 : Df M a g N T K R W C Z E tg) (hC : C < 60) (heN : e < N) (hg : g = a + 13 ∨ g = a + 49) : ∀ (f f' p b T2 Z2 : Nat) (M2 : mM) (cm : cm9), RCw E.2 M2 g R W T2 E.1 Z2 C cm → 1 ≤ p → e < p + f' → cI M a g N K R W C E tg T2 Z2 M2 → RSq M2 a g K s.1 → mI M2 a 16 = 0 → Cc M2 g R W T2 E.1 Z2 C → mI M2 (g + 25) C = (b : Int) → Br (wk M a) f p e → T2 ≤ p → Z2 ≤ p → ((brf (wk M a) (nt M (a + 7)) (smx M a) N s.1 e f' p b).1 ≠ 0 → s'.2.2 = brf (wk M a) (nt M (a + 7)) (smx M a) N s.1 e f' p b) → ((brf (wk M a) (nt M (a + 7)) (smx M a) N s.1 e f' p b).1 = 0 → s' = (s.1, (W, R, C + 1, if tg = -1 then 0 else 1), (0, 0))) → h_MM_commandItem_116 G (d + 9) a e C p M2 (fun M' => mOk M' ∧ itX M a g N (e + 1) s' (gm.1, gm.2.1, gm.2.2 ++ [(cm.1, cm.2.1, cm.2.2.1, cm.2.2.2 ++ brs9 (wk M a) (nt M (a + 7)) (smx M a) N s.1 e f' p)]) M') := by
  have wM := h0.1.2.1.1.1
  intro f
  induction f with
  | zero => intro f' p b T2 Z2 M2 cm _ _ _ _ _ _ _ _ hb; exact hb.elim
  | succ f ih =>
    intro f' p b T2 Z2 M2 cm hw hp1 hf' h rs z2 hcc hb hbr hT hZ fr gd
    have L2 := h.1
    have hN := L2.2.1.1.2.2
    have w2 := L2.2.1.1.1
    obtain ⟨q, s9, h1, h2, h3, h4⟩ := hbr
    have p1 := h1.pr.1
    have p3 := h3.sg.1
    have hse : s9 ≤ e := by
      rcases h4 with ⟨y, -⟩ | ⟨-, y⟩
      · omega
      · have := y.sg.1; omega
    obtain ⟨f', rfl⟩ : ∃ f2, f' = f2 + 1 := ⟨f' - 1, by omega⟩
    have eq : clq (wk M a) (p - 1) N = q := clq_eo (by rw [show p - 1 + 1 = p by omega]; exact h1.six (by omega)) h2 (by omega)
    rw [brf_s eq (by omega)] at fr gd
    have eB := fun z => brs_s (pl := nt M (a + 7)) (sm := smx M a) (nms := s.1) (b := b) (f := f') (e := e) eq (show ¬ e ≤ p by omega) z
    generalize brs9 (wk M a) (nt M (a + 7)) (smx M a) N s.1 e (f' + 1) p = BL at eB ⊢
    refine k_MM_commandItem_116 L2.1 (i32s (by omega) (by omega)) (i32s (by omega) (by omega)) (i32s (by omega) (by omega)) ⟨w2.1.1, fun q => ?_, fun _ => ?_⟩
    · rcases q with q | q
      · exact absurd z2 q
      · omega
    refine (x_MM_branch0 (d := d) eγ hw wM h rs z2 hcc hb hC h1 h2 h3 (by omega) heN hT hZ).mono (fun x M3 t3 => ?_)
    obtain ⟨ix, o3, ⟨hx, T3, Z3, c3, k3⟩, sx⟩ := t3
    refine ⟨ix, o3, ?_⟩
    generalize brS (wk M a) (nt M (a + 7)) (smx M a) N s.1 b p q = S at fr gd sx eB
    rcases sx with ⟨u1, u2⟩ | ⟨u1, u2, u3, u4, u5, u9⟩
    · have z3 : mI M3 a 16 ≠ 0 := by rw [u2.1]; exact u1
      rw [if_pos u1] at fr
      have fr := fr u1
      exact x_ci_end (s := s) eγ h0 hC c3 heN (fun y => absurd y z3) (fun y => absurd y z3) (fun _ => by rw [fr]; exact ⟨u1, u2⟩) (fun y => absurd y z3) (i32s (by omega) (by omega)) (Or.inl z3)
    · obtain ⟨ex, t1, t2, cc⟩ := k3 u3
      subst ex
      rw [if_neg (fun z => z u1), u2] at fr gd
      rw [show (s9 : Int) + 1 = ((s9 + 1 : Nat) : Int) by omega]
      have w9 := u9 T3 Z3 c3
      have eB := eB u1
      rw [u2] at eB
      subst eB
      rcases h4 with ⟨y, -⟩ | ⟨-, y⟩
      · rw [brs_e (by omega)]
        exact x_ci_end eγ h0 hC c3 heN (fun _ => ⟨cc, by omega, by omega, w9⟩) (fun _ => u5) (fun z => absurd u3 z) (fun _ => gd (by rw [brf_e (by omega)])) (i32s (by omega) (by omega)) (Or.inr (by omega))
      · have key := ih f' (s9 + 1) (b + 1) T3 Z3 M3 _ w9 (by omega) (by omega) c3 u5 u3 cc (by rw [u4]; omega) y (by omega) (by omega) fr gd
        have el : (cmA cm (brw (wk M a) (nt M (a + 7)) (smx M a) N s.1 p q)).2.2.2 ++ brs9 (wk M a) (nt M (a + 7)) (smx M a) N s.1 e f' (s9 + 1) = cm.2.2.2 ++ brw (wk M a) (nt M (a + 7)) (smx M a) N s.1 p q :: brs9 (wk M a) (nt M (a + 7)) (smx M a) N s.1 e f' (s9 + 1) := by
          show (cm.2.2.2 ++ [_]) ++ _ = _
          rw [List.append_assoc]
          rfl
        rw [el] at key
        exact key
theorem x_MM_commandItem {gm : gm9} {k e j f : Nat} (eγ : E.2 = txg M a N s.1 gm) (h78 : wk M a k = 7 ∨ wk M a k = 8) (h : Df M a g N T K R W C Z E tg) (hS : RSq M a g K s.1) (hst : s.2.1 = (W, R, C, if tg = -1 then 0 else 1)) (h16 : mI M a 16 = 0) (he6 : Eo (wk M a) 6 (k + 1) j) (w17 : wk M a j = 17) (hbr : Br (wk M a) f (j + 1) e) (heN : e < N) (hT : T ≤ k) (hZ : Z ≤ k) : Cv G y_MM_commandItem (d + 10) [vr a, vi k, vi e] M (fun M' => mOk M' ∧ itX M a g N (e + 1) (itc (wk M a) (nt M (a + 7)) (smx M a) N 60 k e s) (gm.1, gm.2.1, gm.2.2 ++ [cmd9 (wk M a) (nt M (a + 7)) (smx M a) N s.1 k e]) M') := by
  generalize es : itc (wk M a) (nt M (a + 7)) (smx M a) N 60 k e s = s'
  have hL := h.1
  have hN := hL.2.1.1.2.2
  have hg := hL.2.2.2.2.2.1
  have w := hL.2.1.1.1
  have g18 := h.2.1.2.2.1
  have hBd := h.2.2.2.2.1
  have hlt := he6.pr.1
  have hbs := hbr.sg.1
  have ie : i32 (e : Int) := i32s (by omega) (by omega)
  have ik : i32 (k : Int) := i32s (by omega) (by omega)
  have kN : k < N := by omega
  have jN : j < N := by omega
  refine k_MM_commandItem hL.1 ik ie ⟨w.1.1, ?_⟩
  rw [show mR M a 10 = g from hL.2.2.2.2.1, g18, show (k : Int) + 1 = ((k + 1 : Nat) : Int) by omega]
  refine ⟨(w.gp hg).1, fun q => x_st_it (d := d + 8) (c := 5) (by decide) ⟨by decide, by decide⟩ hL kN (by rw [← es]; exact itc_many (by rw [hst]; show C = 60; omega)), fun q => ?_⟩
  have hC : C < 60 := by omega
  have n60 : s.2.1.2.2.1 ≠ 60 := by rw [hst]; show C ≠ 60; omega
  have har : nxq (wk M a) 17 N (k + 1) = j := nxq_at (by omega) (by omega) w17 (fun m m1 m2 => by
    have := rwd_all he6 m1 m2
    unfold rwd at this
    omega)
  have e1 := fun z => (itc_f (mc := 60) n60 har z).symm.trans (by rw [es])
  have e2 := fun z => es.symm.trans (itc_ok (mc := 60) n60 har z)
  rw [hst] at e2
  have b60 : ((0 : Int) ≤ (C : Int) ∧ (C : Int) < ((60 : Nat) : Int)) := by omega
  have hT3 : T + (j - (k + 1)) ≤ 30000 := by omega
  refine hL.ub (d := d + 7) (by omega) he6.pr.2.2.2.2.1 jN w17 (Or.inr (Or.inl rfl)) ⟨i32s (by omega) (by omega), hL.1, w.1.1, ?_⟩
  rw [show mR M a 10 = g from hL.2.2.2.2.1, show mR M g 19 = g + 22 from (w.gp hg).2.2.1.2.2.2.2.1]
  refine ⟨(w.gp hg).1, hL.wd (d := d + 8) kN (fun x hx ix => ⟨ix, hL.1, fun v hv => ⟨(w.gp hg).2.2.2.2.2.1.1, by rw [(w.gp hg).2.2.2.2.2.1.2]; exact b60, fun M2 e2' => ?_⟩⟩)⟩
  rw [Int.toNat_natCast] at e2' ⊢
  have iv : i32 v := by rw [hv]; split <;> exact ⟨by decide, by decide⟩
  obtain ⟨c2, f2, a2, G2⟩ := h.ci.st (i := 22) iv (by omega) (by omega) (by decide) (by decide) e2'
  have L2 := c2.1
  have w2 := L2.2.1.1.1
  rw [show mR M2 a 10 = g from L2.2.2.2.2.1, show mR M2 g 20 = g + 23 from (w2.gp hg).2.2.1.2.2.2.2.2.1]
  refine ⟨w2.1.1, (w2.gp hg).1, (s_MM_place0 (d := d + 8) L2.1 L2.2.1 kN).mono (fun y M3 h3 => ?_)⟩
  obtain ⟨e3, hy⟩ := h3
  subst e3
  have hy32 : i32 y := by rw [hy]; exact (L2.1 _ _).1
  refine ⟨hy32, L2.1, (w2.gp hg).2.2.2.2.2.2.1.1, by rw [(w2.gp hg).2.2.2.2.2.2.1.2]; exact b60, fun M4 e4 => ?_⟩
  obtain ⟨c4, f4, a4, G4⟩ := c2.st (i := 23) hy32 (by omega) (by omega) (by decide) (by decide) e4
  have L4 := c4.1
  have w4 := L4.2.1.1.1
  have wkE := c4.2.1.wk hg
  have z4 : mI M4 a 16 = 0 := by rw [a4, a2]; exact h16
  have rs4 : RSq M4 a g K s.1 := (hS.st (i := 22) hL iv (by omega) (by decide) (by decide) e2').st (i := 23) L2 hy32 (by omega) (by decide) (by decide) e4
  rw [show mR M4 a 10 = g from L4.2.2.2.2.1, show mR M4 g 21 = g + 24 from (w4.gp hg).2.2.1.2.2.2.2.2.2.1]
  refine ⟨w4.1.1, (w4.gp hg).1, (x_crule (d := d + 2) eγ c4 rs4 z4 w (Or.inr rfl) hT3 he6 jN).mono (fun x5 M5 q5 => ?_)⟩
  obtain ⟨ex, T5, t1, t2, Rl, hp, qx⟩ := q5
  subst ex
  obtain ⟨c5, G5⟩ := c4.rl z4 (Nat.le_of_lt t1) Rl hp
  have L5 := c5.1
  have w5 := L5.2.1.1.1
  have iT : i32 (T : Int) := i32s (by omega) (by omega)
  refine ⟨iT, L5.1, (w5.gp hg).2.2.2.2.2.2.2.1.1, by rw [(w5.gp hg).2.2.2.2.2.2.2.1.2]; exact b60, fun M6 e6 => ?_⟩
  obtain ⟨c6, f6, a6, G6⟩ := c5.st (i := 24) iT (by omega) (by omega) (by decide) (by decide) e6
  have L6 := c6.1
  have w6 := L6.2.1.1.1
  rw [show mR M6 a 10 = g from L6.2.2.2.2.1, show mR M6 g 22 = g + 25 from (w6.gp hg).2.2.1.2.2.2.2.2.2.2.1]
  refine ⟨w6.1.1, (w6.gp hg).1, (w6.gp hg).2.2.2.2.2.2.2.2.1.1, by rw [(w6.gp hg).2.2.2.2.2.2.2.2.1.2]; exact b60, fun M7 e7 => ?_⟩
  obtain ⟨c7, f7, a7, G7⟩ := c6.st (i := 25) ⟨by decide, by decide⟩ (by omega) (by omega) (by decide) (by decide) e7
  have aI7 : mI M7 a = mI M5 a := by rw [a7, a6]
  have a75 : mI M7 a 16 = mI M5 a 16 := by rw [a7, a6]
  have rs7 : RSq M5 a g K s.1 → RSq M7 a g K s.1 := fun r5 => (r5.st (i := 24) L5 iT (by omega) (by decide) (by decide) e6).st (i := 25) L6 ⟨by decide, by decide⟩ (by omega) (by decide) (by decide) e7
  rw [show (j : Int) + 1 = ((j + 1 : Nat) : Int) by omega]
  by_cases z7 : mI M7 a 16 = 0
  · have z5 : mI M5 a 16 = 0 := by rw [← a75]; exact z7
    have r24 : mI M7 (g + 24) C = (T : Int) := by rw [f7, if_neg (fun z => by omega), f6, if_pos ⟨rfl, rfl⟩]
    have r25 : mI M7 (g + 25) C = 0 := by rw [f7, if_pos ⟨rfl, rfl⟩]
    have D4 := c4.2.2.2.2 z4
    have rt := ((rl_rt L4 c4.2.2.1.2.1 c4.2.2.1.2.2 D4 Rl z5 (hp z5)).gn G6 D4.1.1).gn G7 D4.1.1
    obtain ⟨u1, -, u3, u9⟩ : (rf9 (wk M a) (nt M (a + 7)) (smx M a) s.1 0 1 (k + 1) j).1 = 0 ∧ mI M5 a 16 = 0 ∧ RSq M5 a g K s.1 ∧ Rtw E.2 M5 g R W T5 E.1 (T : Int) 1 (k + 1) j := by
      rcases qx with ⟨y1, y2⟩ | y
      · rw [y2.1] at z5; exact absurd z5 y1
      · exact y
    rw [fst9_r u1] at e1 e2
    have hin : ∀ q, rlP a g q → q ∈ nums a := fun q hq => rlP_in hg hq
    have cell : ∀ i, i ≤ 29 → frO (13 + i) → frO (49 + i) → mI M5 (g + i) = mI M4 (g + i) := fun i i1 o1 o2 => (Rl.1.cellL w4 hin (goffx hg o1 o2) (by omega)).1
    have r22 : mI M7 (g + 22) C = v := by rw [f7, if_neg (fun z => by omega), f6, if_neg (fun z => by omega), cell 22 (by omega) (by decide) (by decide), f4, if_neg (fun z => by omega), f2, if_pos ⟨rfl, rfl⟩]
    have r23 : mI M7 (g + 23) C = nt M (a + 7) k := by rw [f7, if_neg (fun z => by omega), f6, if_neg (fun z => by omega), cell 23 (by omega) (by decide) (by decide), f4, if_pos ⟨rfl, rfl⟩, hy, (c2.2.1.sx w hg).2.1]
    have w0 : RCw E.2 M7 g R W T5 E.1 Z C ((if wk M a k = 7 then 1 else 2), nt M (a + 7) k, (k + 1, j), []) := by
      unfold RCw
      rw [r22, r23, r24, r25]
      refine ⟨?_, rfl, (u9.gn G6 D4.1.1).gn G7 D4.1.1, ⟨rfl, by show (0 : Nat) ≤ 8; omega⟩, fun b x hb => absurd (show ([] : List br9)[b]? = some x from hb) (by simp)⟩
      rcases h78 with y7 | y7
      · refine Or.inl ⟨if_pos y7, ?_⟩
        rw [hv, if_neg (by omega)]
      · refine Or.inr ⟨if_neg (by omega), ?_⟩
        rw [hv, if_pos (by omega)]
        decide
    have ec : cmd9 (wk M a) (nt M (a + 7)) (smx M a) N s.1 k e = ((if wk M a k = 7 then 1 else 2), nt M (a + 7) k, (k + 1, j), [] ++ brs9 (wk M a) (nt M (a + 7)) (smx M a) N s.1 e N (j + 1)) := by
      unfold cmd9
      rw [har]
      rfl
    rw [ec]
    refine x_ci_run eγ h hC heN hg f N (j + 1) 0 T5 Z M7 _ w0 (by omega) (by omega) c7 (rs7 u3) z7 ?_ r25 hbr (by omega) (by omega) (fun z => (e1 z).symm) e2
    unfold Cc
    rw [r24, r25]
    exact ⟨rt, by decide, by decide, fun b hb => absurd hb (by omega)⟩
  · refine x_ci_end (s := s) eγ h hC c7 heN (fun y => absurd y z7) (fun y => absurd y z7) (fun _ => ?_) (fun y => absurd y z7) (i32s (by omega) (by omega)) (Or.inl z7)
    rcases qx with ⟨y1, y2⟩ | ⟨-, y, -, -⟩
    · rw [fst9_l y1] at e1
      rw [← e1 y1]
      exact ⟨y1, by rw [aI7]; exact y2.1, by rw [aI7]; exact y2.2⟩
    · rw [a75] at z7; exact absurd y z7
end CXA
end
section
/-! The reference's items, exactly. -/
section IXP
variable {w pl nq : Nat → Int} {sm : Nat → Nat → Prop} {N k e mc f : Nat} {s : st9}
theorem its_x (h : s.2.2.1 ≠ 0) : its9 w pl nq sm N mc f k s = s := by
  cases f with
  | zero => rfl
  | succ f => rw [its9, if_pos h]
theorem its_end (h : s.2.2.1 = 0) (hw : w k = 0) : its9 w pl nq sm N mc (f + 1) k s = if s.2.1.2.2.2 = 0 then (s.1, s.2.1, (10, pl k)) else s := by
  rw [its9, if_neg (fun z => z h), if_pos hw]
theorem its_s (h : s.2.2.1 = 0) (hw : w k ≠ 0) (he : nxq w 34 N k = e) : its9 w pl nq sm N mc (f + 1) k s = its9 w pl nq sm N mc f (e + 1) (if w k = 3 ∨ w k = 6 then itr w pl nq sm k e s else if w k = 4 then itv w pl nq sm N k e s else if w k = 11 then itt w pl sm k e s else itc w pl sm N mc k e s) := by
  rw [its9, if_neg (fun z => z h), if_neg hw, he]
  unfold ite9
  simp only [he]
theorem igs_end {g9 : gm9} (h : s.2.2.1 = 0) (hw : w k = 0) : igs9 w pl nq sm N mc (f + 1) k s g9 = g9 := by
  rw [igs9, if_neg (fun z => z h), if_pos hw]
theorem igs_s {g9 : gm9} {s9 : st9} (h : s.2.2.1 = 0) (hw : w k ≠ 0) (he : nxq w 34 N k = e) (hs : (if w k = 3 ∨ w k = 6 then itr w pl nq sm k e s else if w k = 4 then itv w pl nq sm N k e s else if w k = 11 then itt w pl sm k e s else itc w pl sm N mc k e s) = s9) (h0 : s9.2.2.1 = 0) : igs9 w pl nq sm N mc (f + 1) k s g9 = igs9 w pl nq sm N mc f (e + 1) s9 (igm9 w pl nq sm N s.1 k g9) := by
  have es : ite9 w pl nq sm N mc k s = s9 := by
    unfold ite9
    simp only [he]
    exact hs
  rw [igs9, if_neg (fun z => z h), if_neg hw, he, es, if_neg (fun z => z h0)]
theorem itt_2 (h : s.2.1.2.2.2 ≠ 0) : (itt w pl sm k e s).2.2 = (4, pl k) := by
  unfold itt
  simp only []
  rw [if_pos h]
theorem itt_f (h : s.2.1.2.2.2 = 0) (h3 : (rf9 w pl sm s.1 0 1 (k + 1) e).1 ≠ 0) : (itt w pl sm k e s).2.2 = rf9 w pl sm s.1 0 1 (k + 1) e := by
  unfold itt
  simp only []
  rw [if_neg (fun z => z h), if_pos h3]
theorem itt_ok (h : s.2.1.2.2.2 = 0) (h3 : (rf9 w pl sm s.1 0 1 (k + 1) e).1 = 0) : itt w pl sm k e s = (s.1, (s.2.1.1, s.2.1.2.1, s.2.1.2.2.1, 1), (0, 0)) := by
  unfold itt
  simp only []
  rw [if_neg (fun z => z h), if_neg (fun z => z h3)]
end IXP
section IXA
variable {G : mG} {d a g R W C T Z T2 T3 N K : Nat} {M M2 M3 : mM} {E : Eg9} {tg : Int} {s s' sF : st9} {gF : gm9}
/-- all items have been read, exactly -/
def itmX (M : mM) (a g N : Nat) (sF : st9) (gF : gm9) (M' : mM) : Prop := iF M a g M' ∧ ((sF.2.2.1 ≠ 0 ∧ fpw M' a sF.2.2) ∨ (sF.2.2.1 = 0 ∧ mI M' a 16 = 0 ∧ ∃ (T K R W C Z : Nat) (E : Eg9) (tg : Int), Df M' a g N T K R W C Z E tg ∧ T < N ∧ Z < N ∧ 0 ≤ tg ∧ RSq M' a g K sF.1 ∧ sF.2.1 = (W, R, C, 1) ∧ E.2 = txg M' a N sF.1 gF))
theorem x_it_x {k : Int} (ik : i32 k) (w2 : Wd M2 a) (o2 : mOk M2) (hI : iF M a g M2) (z : mI M2 a 16 ≠ 0) (fl : sF.2.2.1 ≠ 0 ∧ fpw M2 a sF.2.2) : h_MM_items0_38 G (d + 10) a k M2 (fun M' => mOk M' ∧ itmX M a g N sF gF M') :=
  k_MM_items0_38 o2 ik ⟨w2.1.1, fun y => absurd y z, fun _ => ⟨fun y => absurd y z, fun _ => k_MM_items0_218 o2 ⟨o2, hI, Or.inl fl⟩, fun y => absurd (Or.inl z) y⟩⟩
theorem x_it_run (wM : Wd M a) (hN : N ≤ 16385) (hg : g = a + 13 ∨ g = a + 49) : ∀ (f f' k : Nat) (M2 : mM) (s : st9) (gm : gm9), N ≤ k + f' → Ac (wk M a) N f [50] k → iF M a g M2 → mI M2 a 16 = 0 → s.2.2.1 = 0 → DfS M2 a g N k s gm → sF = its9 (wk M a) (nt M (a + 7)) (nuq M a) (smx M a) N 60 f' k s → (sF.2.2.1 = 0 → gF = igs9 (wk M a) (nt M (a + 7)) (nuq M a) (smx M a) N 60 f' k s gm) → h_MM_items0_38 G (d + 10) a k M2 (fun M' => mOk M' ∧ itmX M a g N sF gF M') := by
  intro f
  induction f using Nat.strongRecOn with
  | ind f ih =>
    intro f' k M2 s gm hf' hac hI z2 hs0 hDf eF eG
    obtain ⟨T, K, R, W, C, Z, E, tg, h, ⟨hT, hZ⟩, hS, hst, eγ⟩ := hDf
    have sx2 := hI.sx wM hg
    have tgz : tg = -1 ∨ 0 ≤ tg := by
      rcases h.2.2.2.2.2.2.2.2.2.2.1 with y | ⟨n', -, -, -, y, -⟩
      · exact Or.inl y
      · exact Or.inr (by omega)
    have hL := h.1
    have w2 := hL.2.1.1.1
    have wkE := hI.wk hg
    have hkN := ac_le hac
    have h17 := h.2.1.2.2.2
    have ik : i32 (k : Int) := i32s (by omega) (by omega)
    -- after an item
    have nxt : ∀ (e g' f2 : Nat) (M3 : mM) (s' : st9) (g9 : gm9), N ≤ e + 1 + f2 → g' < f → e < N → Ac (wk M a) N g' [50] (e + 1) → sF = its9 (wk M a) (nt M (a + 7)) (nuq M a) (smx M a) N 60 f2 (e + 1) s' → (s'.2.2.1 = 0 → sF.2.2.1 = 0 → gF = igs9 (wk M a) (nt M (a + 7)) (nuq M a) (smx M a) N 60 f2 (e + 1) s' g9) → itX M2 a g N (e + 1) s' g9 M3 → h_MM_items0_183 G (d + 10) a e M3 (fun M' => mOk M' ∧ itmX M a g N sF gF M') := fun e g' f2 M3 s' g9 hf2 hg' he hac' eF eG hq => by
      obtain ⟨I3, hq⟩ := hq
      have I03 := hI.trans I3
      refine k_MM_items0_183 I3.1.1 (i32s (by omega) (by omega)) ?_
      rw [show (e : Int) + 1 = ((e + 1 : Nat) : Int) by omega]
      rcases hq with ⟨y, yf⟩ | ⟨y0, y1, y2⟩
      · rw [its_x y] at eF
        exact x_it_x (i32s (by omega) (by omega)) I3.1.2.1 I3.1.1 I03 (by rw [yf.1]; exact y) (by rw [eF]; exact ⟨y, yf⟩)
      · exact ih g' hg' f2 (e + 1) M3 s' g9 hf2 hac' I03 y1 y0 y2 eF (eG y0)
    rcases ac_item hac with ⟨c0, c1⟩ | ⟨c0, e, g', hg', hit, hac'⟩
    · have kN : k < N := by omega
      obtain ⟨f', rfl⟩ : ∃ f2, f' = f2 + 1 := ⟨f' - 1, by omega⟩
      rw [its_end hs0 c0, hst] at eF
      simp only [] at eF
      refine k_MM_items0_38 hL.1 ik ⟨w2.1.1, fun _ => hL.wd (d := d + 9) kN (fun x hx ix => ⟨ix, hL.1, fun _ => ⟨w2.1.1, ?_⟩, fun q => absurd (hx.trans (by rw [wkE]; exact c0)) q⟩), fun y => absurd z2 y⟩
      rw [show mR M2 a 10 = g from hL.2.2.2.2.1, h17]
      refine ⟨fun _ => (w2.gp hg).1, fun q => k_MM_items0_218 hL.1 ⟨hL.1, hI, Or.inr ?_⟩, fun q => ?_⟩
      · have tg0 : 0 ≤ tg := by
          rcases q with q | q
          · exact absurd z2 q
          · exact q
        have n1 : ¬ tg = -1 := by omega
        rw [if_neg n1, if_neg (by decide)] at eF
        have eG := eG (by rw [eF]; exact hs0)
        rw [igs_end hs0 c0] at eG
        rw [eF]
        exact ⟨hs0, z2, T, K, R, W, C, Z, E, tg, h, by omega, by omega, tg0, hS, by rw [hst, if_neg n1], by rw [eG]; exact eγ⟩
      · have t1 : tg = -1 := by
          rcases tgz with y | y
          · exact y
          · exact absurd (Or.inr y) q
        rw [if_pos t1, if_pos rfl] at eF
        refine (s_MM_place0 (d := d + 9) hL.1 hL.2.1 kN).mono (fun y M5 h5 => ?_)
        obtain ⟨e5, hy⟩ := h5
        subst e5
        have hy32 : i32 y := by rw [hy]; exact (hL.1 _ _).1
        refine ⟨hy32, hL.1, w2.1.1, (s_MM_stop ⟨by decide, by decide⟩ hy32 hL.1 w2).mono (fun M6 h6 => ⟨h6.1.1, k_MM_items0_218 h6.1.1 ⟨h6.1.1, hI.trans (iF.mk w2 h6.1 (fun _ z => z.elim) (fun x z => Or.inl z) (fun i i1 i2 _ => h6.2.2.2 i i1 i2)), Or.inl (by rw [eF]; exact ⟨by simp, h6.2.1, by rw [h6.2.2.1, hy, sx2.2.1]⟩)⟩⟩)⟩
    · have he1 := ac_le hac'
      have hke := hit.2.1
      have kN : k < N := by omega
      have eN : e < N := by omega
      refine k_MM_items0_38 hL.1 ik ⟨w2.1.1, fun _ => hL.wd (d := d + 9) kN (fun x hx ix => ⟨ix, hL.1, fun q => ?_, fun _ => ⟨w2.1.1, ?_⟩⟩), fun y => absurd z2 y⟩
      · rw [wkE] at hx
        exact absurd (hx.symm.trans q) c0
      have hit2 : It (wk M2 a) k e := by rw [wkE]; exact hit
      obtain ⟨f', rfl⟩ : ∃ f2, f' = f2 + 1 := ⟨f' - 1, by omega⟩
      have en : nxq (wk M a) 34 N k = e := nxq_at (by omega) (by omega) hit.1 (fun m m1 m2 => hit.sg.2.2.2 m m1 m2)
      rw [its_s hs0 c0 en] at eF
      have en1 : nxq (wk M a) 34 N (k + 1) = e := nxq_at (by omega) (by omega) hit.1 (fun m m1 m2 => hit.sg.2.2.2 m (by omega) m2)
      have eG := fun (s9 : st9) hs h0 hF => (eG hF).trans (igs_s (g9 := gm) (s9 := s9) (f := f') hs0 c0 en hs h0)
      have hf2 : N ≤ e + 1 + f' := by omega
      refine hL.ue (d := d + 8) hit2 eN ⟨i32s (by omega) (by omega), hL.1, w2.1.1, hL.wd (d := d + 9) kN (fun x2 hx2 ix2 => ⟨ix2, hL.1, ?_⟩)⟩
      obtain ⟨-, -, hsh⟩ := hit2
      have go : ∀ (s' : st9) (g9 : gm9), sF = its9 (wk M a) (nt M (a + 7)) (nuq M a) (smx M a) N 60 f' (e + 1) s' → (s'.2.2.1 = 0 → sF.2.2.1 = 0 → gF = igs9 (wk M a) (nt M (a + 7)) (nuq M a) (smx M a) N 60 f' (e + 1) s' g9) → ∀ M3, mOk M3 ∧ itX M2 a g N (e + 1) s' g9 M3 → mOk M3 ∧ h_MM_items0_183 G (d + 10) a e M3 (fun M' => mOk M' ∧ itmX M a g N sF gF M') := fun s' g9 eF eG M3 t => ⟨t.1, nxt e g' f' M3 s' g9 hf2 hg' eN hac' eF eG t.2⟩
      have hx3 : wk M2 a k = wk M a k := by rw [wkE]
      refine ⟨fun q1 => ⟨w2.1.1, ?_⟩, fun q1 => ⟨fun q2 => ⟨w2.1.1, ?_⟩, fun q2 => ⟨fun q3 => ⟨w2.1.1, ?_⟩, fun q3 => ⟨w2.1.1, ?_⟩⟩⟩⟩
      · rcases hsh with ⟨y0, -, -, y1⟩ | ⟨y0, -⟩ | ⟨y0, -⟩ | ⟨y0, -⟩
        · rw [wkE] at y0
          rw [if_pos y0] at eF
          have eG := eG _ (if_pos y0)
          have eg : igm9 (wk M a) (nt M (a + 7)) (nuq M a) (smx M a) N s.1 k gm = gm := if_pos y0
          rw [eg] at eG
          refine (x_MM_ruleItem (d := d + 3) eγ (by rw [wkE]; exact en1) h hS hst z2 (by rw [wkE]; exact y0) y1 eN hT hZ).mono (go _ gm ?_ ?_)
          · rw [sx2.1, sx2.2.1, sx2.nu, sx2.sm]; exact eF
          · rw [sx2.1, sx2.2.1, sx2.nu, sx2.sm]; exact eG
        · omega
        · omega
        · omega
      · rcases hsh with ⟨y0, -⟩ | ⟨y0, -, -, i, y1, y2⟩ | ⟨y0, -⟩ | ⟨y0, -⟩
        · omega
        · rw [wkE] at y0
          have n36 : ¬ (wk M a k = 3 ∨ wk M a k = 6) := by omega
          rw [if_neg n36, if_pos y0] at eF
          have eG := eG _ ((if_neg n36).trans (if_pos y0))
          have eg : igm9 (wk M a) (nt M (a + 7)) (nuq M a) (smx M a) N s.1 k gm = (gm.1 ++ [var9 (wk M a) (nt M (a + 7)) (nuq M a) (smx M a) N s.1 k e], gm.2) := by
            unfold igm9
            rw [if_neg n36, if_pos y0, en]
          rw [eg] at eG
          refine (x_MM_varItem (d := d + 2) eγ h hS hst z2 eN hT hZ y1 y2).mono (go _ _ ?_ ?_)
          · rw [sx2.1, sx2.2.1, sx2.nu, sx2.sm]; exact eF
          · rw [sx2.1, sx2.2.1, sx2.nu, sx2.sm]; exact eG
        · omega
        · omega
      · have n36 : ¬ (wk M a k = 3 ∨ wk M a k = 6) := by omega
        have n4 : ¬ wk M a k = 4 := by omega
        have y11 : wk M a k = 11 := by omega
        rw [if_neg n36, if_neg n4, if_pos y11] at eF
        have eG := eG _ ((if_neg n36).trans ((if_neg n4).trans (if_pos y11)))
        have eg : igm9 (wk M a) (nt M (a + 7)) (nuq M a) (smx M a) N s.1 k gm = (gm.1, some (k + 1, e), gm.2.2) := by
          unfold igm9
          rw [if_neg n36, if_neg n4, if_pos y11, en]
        rw [eg] at eG
        have eo : Eo (wk M2 a) 6 (k + 1) e := by
          rcases hsh with ⟨y0, -⟩ | ⟨y0, -⟩ | ⟨y0, -⟩ | ⟨-, y⟩
          · omega
          · omega
          · omega
          · exact y
        rw [show mR M2 a 10 = g from hL.2.2.2.2.1, h17, show (k : Int) + 1 = ((k + 1 : Nat) : Int) by omega]
        refine ⟨(w2.gp hg).1, fun q4 => ?_, fun q4 => ?_⟩
        · have t1' : tg = -1 := by clear hsh eG eF; omega
          have st0 : s.2.1.2.2.2 = 0 := by rw [hst]; show (if tg = -1 then 0 else 1) = 0; rw [if_pos t1']
          refine (x_crule (d := d + 3) eγ h.ci hS z2 w2 (Or.inr rfl) (by omega) eo eN).mono (fun x5 M5 q5 => ?_)
          obtain ⟨ex, T5, t1, t2, Rl, hp, qx⟩ := q5
          subst ex
          rw [sx2.1, sx2.2.1, sx2.sm] at qx
          have L5 := Rl.2.1
          have w5 := L5.2.1.1.1
          refine ⟨i32s (by omega) (by omega), L5.1, (w5.gp hg).1, fun M6 e6 => ?_⟩
          obtain ⟨I6, a6, o6, D6⟩ := h.tgt (ij := (k + 1, e)) t1 Rl hp (fun z => by
            rcases qx with ⟨u1, u2⟩ | ⟨-, -, -, u9⟩
            · exact absurd (u2.1.symm.trans z) u1
            · exact u9) (by omega) e6
          refine nxt e g' f' M6 _ _ hf2 hg' eN hac' eF eG ⟨I6, ?_⟩
          rcases qx with ⟨u1, u2⟩ | ⟨u1, u2, u3, u9⟩
          · rw [itt_f st0 u1]
            exact Or.inl ⟨u1, by rw [a6]; exact u2.1, by rw [a6]; exact u2.2⟩
          · rw [itt_ok st0 u1]
            refine Or.inr ⟨rfl, by rw [a6]; exact u2, T5, K, R, W, C, Z, _, _, D6 u2, ⟨by omega, by omega⟩, u3.own L5 (i32s (by omega) (by omega)) e6, ?_, ?_⟩
            · show (s.2.1.1, s.2.1.2.1, s.2.1.2.2.1, 1) = _
              rw [hst, if_neg (show ¬ ((T : Int) = -1) by omega)]
            · rw [(I6.sx w2 hg).tx9]
              show gWs E.2 _ _ = _
              rw [eγ]
              rfl
        · have st1 : s.2.1.2.2.2 ≠ 0 := by rw [hst]; show (if tg = -1 then 0 else 1) ≠ 0; rw [if_neg (by clear hsh eG eF; omega)]; decide
          refine (s_MM_place0 (d := d + 9) hL.1 hL.2.1 kN).mono (fun y M5 h5 => ?_)
          obtain ⟨e5, hy⟩ := h5
          subst e5
          have hy32 : i32 y := by rw [hy]; exact (hL.1 _ _).1
          refine ⟨hy32, hL.1, w2.1.1, (s_MM_stop ⟨by decide, by decide⟩ hy32 hL.1 w2).mono (fun M6 h6 => ⟨h6.1.1, nxt e g' f' M6 _ _ hf2 hg' eN hac' eF eG ⟨(st_it (g := g) (N := N) (k := e + 1) w2 (by decide) h6).1, Or.inl ?_⟩⟩)⟩
          rw [itt_2 st1]
          exact ⟨by simp, h6.2.1, by rw [h6.2.2.1, hy, sx2.2.1]⟩
      · rcases hsh with ⟨y0, -⟩ | ⟨y0, -⟩ | ⟨y78, j, f9, y1, y2, y3⟩ | ⟨y0, -⟩
        · omega
        · omega
        · have n36 : ¬ (wk M a k = 3 ∨ wk M a k = 6) := by omega
          have n4 : ¬ wk M a k = 4 := by omega
          have n11 : ¬ wk M a k = 11 := by omega
          rw [if_neg n36, if_neg n4, if_neg n11] at eF
          have eG := eG _ ((if_neg n36).trans ((if_neg n4).trans (if_neg n11)))
          have eg : igm9 (wk M a) (nt M (a + 7)) (nuq M a) (smx M a) N s.1 k gm = (gm.1, gm.2.1, gm.2.2 ++ [cmd9 (wk M a) (nt M (a + 7)) (smx M a) N s.1 k e]) := by
            unfold igm9
            rw [if_neg n36, if_neg n4, if_neg n11, en]
          rw [eg] at eG
          refine (x_MM_commandItem (d := d) eγ y78 h hS hst z2 y1 y2 y3 eN hT hZ).mono (go _ _ ?_ ?_)
          · rw [sx2.1, sx2.2.1, sx2.sm]; exact eF
          · rw [sx2.1, sx2.2.1, sx2.sm]; exact eG
        · omega
end IXA
end
section
/-! The reference's items, exactly: from an empty game. -/
section IXB
variable {G : mG} {d a g N : Nat} {M M2 M3 : mM}
/-- no names, nothing counted, no fault -/
def s09 : st9 := ([], (0, 0, 0, 0), (0, 0))
/-- no vars, no target, no commands -/
def g09 : gm9 := ([], none, [])
theorem x_MM_items0 {f : Nat} (hO : mOk M) (hx : Wx M a N) (h10 : mR M a 10 = g) (hg : g = a + 13 ∨ g = a + 49) (hac : Ac (wk M a) N f [50] 0) : Cv G y_MM_items0 (d + 11) [vr a] M (fun M' => mOk M' ∧ itmX M a g N (its9 (wk M a) (nt M (a + 7)) (nuq M a) (smx M a) N 60 N 0 s09) (igs9 (wk M a) (nt M (a + 7)) (nuq M a) (smx M a) N 60 N 0 s09 g09) M') := by
  have w := hx.1.1
  have hN := hx.1.2.2
  have r13 : ∀ {M3 : mM}, Wd M3 a → mR M3 a 13 = a + 85 := fun w => w.1.2.2.2.2.1.1
  have r14 : ∀ {M3 : mM}, Wd M3 a → mR M3 a 14 = a + 87 := fun w => w.1.2.2.2.2.1.2.1
  have r15 : ∀ {M3 : mM}, Wd M3 a → mR M3 a 15 = a + 89 := fun w => w.1.2.2.2.2.1.2.2.1
  refine k_MM_items0 hO ?_
  rw [h10]
  refine ⟨w.1.1, (w.gp hg).1, (s_MG_clear (d := d + 9) hO w hg).mono (fun M1 t1 => ?_)⟩
  obtain ⟨o1, m1, c1, c6, c12, c17, c18⟩ := t1
  have w1 := m1.2.1
  have hin1 : ∀ q, gL9 g q → q ∈ nums a := fun q hq => gL9_in hg hq
  have aI1 := (m1.fld w hin1 (by omega)).1
  have g9 : ∀ {q}, gL9 g q → itP a g q := fun {q} hq => ⟨gL9_in hg hq, by have : q = g + 1 ∨ q = g + 3 ∨ q = g + 5 ∨ q = g + 7 ∨ q = g + 9 ∨ q = g + 11 ∨ q = g + 30 ∨ q = g + 32 ∨ q = g + 34 := hq; omega⟩
  have I1 : iF M a g M1 := iF.mk w m1 (fun q hq => g9 hq) (fun x z => Or.inr (Or.inl (by omega))) (fun i _ _ _ => by rw [aI1])
  have nset : ∀ {p : Nat} {Mx My : mM}, p = a + 85 ∨ p = a + 87 ∨ p = a + 89 → iF M a g Mx → mI Mx g = mI M1 g → (∀ q, gL9 g q → ln Mx q = 0) → My = mUI Mx p 1 0 → iF M a g My ∧ mI My g = mI M1 g ∧ (∀ q, gL9 g q → ln My q = 0) ∧ ln My p = 0 ∧ (∀ q, q ∈ nums a → q ≠ p → ln My q = ln Mx q) := fun {p Mx My} hp hI hgI hz he => by
    have wx := hI.1.2.1
    have pn : p ∈ nums a := by rcases hp with y | y | y <;> rw [y]; exact n85; exact n87; exact n89
    have b : 0 ≤ ln Mx p := (wx.nu pn).2.2.2.1.1
    obtain ⟨m3, l3, -, -⟩ := mv_set hI.1.1 wx pn (v := 0) (by omega) b he
    have hin : ∀ q, q = p → q ∈ nums a := fun q hq => by rw [hq]; exact pn
    refine ⟨hI.trans (iF.mk wx m3 (fun q hq => ⟨hin q hq, by omega⟩) (fun _ z => z.elim) (fun i _ _ _ => by rw [(m3.fld wx hin (fun z => z)).1])), (m3.gI wx hg hin (fun z => z)).trans hgI, fun q hq => ?_, l3, fun q hq hne => (m3.lst hq hne).1⟩
    have hq' : q = g + 1 ∨ q = g + 3 ∨ q = g + 5 ∨ q = g + 7 ∨ q = g + 9 ∨ q = g + 11 ∨ q = g + 30 ∨ q = g + 32 ∨ q = g + 34 := hq
    rw [(m3.lst (gL9_in hg hq) (by omega)).1]
    exact hz q hq
  rw [r13 w1]
  refine ⟨o1, w1.1.1, (w1.nu n85).1, fun M2 e2 => ?_⟩
  obtain ⟨I2, g2, z2, l2, u2⟩ := nset (Or.inl rfl) I1 rfl c1 e2
  have w2 := I2.1.2.1
  rw [r14 w2]
  refine ⟨(w2.nu n87).1, fun M3 e3 => ?_⟩
  obtain ⟨I3, g3, z3, l3, u3⟩ := nset (Or.inr (Or.inl rfl)) I2 g2 z2 e3
  have w3 := I3.1.2.1
  rw [r15 w3]
  refine ⟨(w3.nu n89).1, fun M4 e4 M5 e5 => ?_⟩
  obtain ⟨I4, g4, z4, l4, u4⟩ := nset (Or.inr (Or.inr rfl)) I3 g3 z3 e4
  have w4 := I4.1.2.1
  obtain ⟨m5, f5⟩ := mv_fld (v := 0) ⟨by decide, by decide⟩ I4.1.1 w4 e5
  have no : ∀ q : Nat, False → q ∈ nums a := fun _ z => z.elim
  have g5 : mI M5 g = mI M1 g := (m5.gI w4 hg no (by omega)).trans g4
  have I5 : iF M a g M5 := I4.trans (iF.mk w4 m5 (fun _ z => z.elim) (fun x z => Or.inl z) (fun i i1 _ _ => by rw [f5, if_neg i1]))
  have s5 : ∀ {q}, q ∈ nums a → ln M5 q = ln M4 q := fun hq => (m5.lst hq (fun z => z)).1
  have k85 : ln M5 (a + 85) = 0 := by rw [s5 n85, u4 _ n85 (by omega), u3 _ n85 (by omega), l2]
  have k87 : ln M5 (a + 87) = 0 := by rw [s5 n87, u4 _ n87 (by omega), l3]
  have k89 : ln M5 (a + 89) = 0 := by rw [s5 n89, l4]
  have hin5 : ∀ q, itP a g q → q ∈ nums a := fun q hq => hq.1
  have t2 : ¬ itP a g (mR M a 2) := fun z => by
    have := z.2
    rcases w.1.2.1 with y | y <;> rw [y.2] at this <;> omega
  have x5 : Wx M5 a N := hx.mv I5.1 hin5 (fun z => by have := z.2; omega) (fun z => by have := z.2; omega) (fun z => by have := z.2; omega) t2
  have h105 : mR M5 a 10 = g := by rw [I5.1.rfl_a w hin5]; exact h10
  have L5 : Lc M5 a g N 0 0 := ⟨I5.1.1, x5, ⟨k85, k87, k89, by omega, fun k hk => absurd hk (by omega)⟩, fun q hq => by rw [s5 (tL_in hg hq), z4 q (by have : q = g + 1 ∨ q = g + 3 ∨ q = g + 5 ∨ q = g + 7 ∨ q = g + 9 ∨ q = g + 11 := hq; omega)]; rfl, h105, hg, by rw [g5, c6, c12]; omega, by omega⟩
  have R5 : RGq (txg M5 a N [] g09) M5 g 0 0 0 0 0 (fun _ => 0) (-1) := ⟨⟨rfl, rfl⟩, fun l1 e l2 he _ => absurd (show ([] : List nm9) = l1 ++ e :: l2 from he) (by simp), ⟨rfl, fun v x hv => absurd (show ([] : List (Int × Int × Int))[v]? = some x from hv) (by simp)⟩, Or.inl ⟨rfl, rfl⟩, rfl, fun c cm hc => absurd (show ([] : List cm9)[c]? = some cm from hc) (by simp)⟩
  have D5 : Df M5 a g N 0 0 0 0 0 0 ((fun _ => 0), txg M5 a N [] g09) (-1) := ⟨L5, ⟨by rw [g5, c6]; rfl, by rw [g5, c12]; rfl, by rw [g5, c18]; rfl, by rw [g5, c17]⟩, ⟨by rw [s5 (n30 hg), z4 _ (by omega)]; rfl, by rw [s5 (n32 hg), z4 _ (by omega)]; rfl, by rw [s5 (n34 hg), z4 _ (by omega)]; rfl⟩, rfl, ⟨⟨by omega, by omega, by omega⟩, fun r hr => absurd hr (by omega), fun r hr => absurd hr (by omega), fun r hr => absurd hr (by omega), fun r hr => absurd hr (by omega), fun r hr => absurd hr (by omega), Or.inl rfl, R5⟩⟩
  exact x_it_run w hN hg f N 0 M5 s09 g09 (by omega) hac I5 (by rw [f5, if_pos rfl]) rfl ⟨0, 0, 0, 0, 0, 0, ((fun _ => 0), txg M5 a N [] g09), -1, D5, ⟨Nat.le_refl _, Nat.le_refl _⟩, ⟨rfl, fun q hq => absurd hq (by omega), fun p q _ hq => absurd hq (by omega), fun p q _ hq => absurd hq (by omega)⟩, rfl, rfl⟩ rfl (fun _ => rfl)
end IXB
end
section
/-! What a text's items make: the names are sound. Pure. -/
section PNM
variable {w pl nq : Nat → Int} {sm : Nat → Nat → Prop} {N n k e i j : Nat} {s : st9} {nms : List nm9}
/-- what consts are worth is sound -/
theorem cvc_ok (hq : NqO w nq n) (hn : NmO w pl sm N n nms) : ∀ k, (w k = 1 ∨ w k = 2 ∨ w k = 12 ∨ w k = 13) → (w k = 1 → E9 sm nms 1 k ≠ -1) → vgd (if w k = 12 ∨ w k = 13 ∨ (w k = 1 ∧ E9 sm nms 1 k = 1) then 1 else 0) (if k < n then cv9 w nq sm nms k else (0, 0, 1)) := by
  intro k hk hne
  by_cases kn : k < n
  · rw [if_pos kn]
    by_cases h1 : w k = 1
    · have h := hne h1
      unfold cv9
      rw [if_pos h1]
      unfold E9 at h ⊢
      generalize hf : fnd9 sm nms k = o at h ⊢
      cases o with
      | none => exact absurd rfl h
      | some e =>
        obtain ⟨l1, l2, q1, q2, q3⟩ := fnd_sp hf
        obtain ⟨a1, a2, a3, a4⟩ := hn l1 e l2 q1
        have h' : (if (1 : Int) = 1 ∧ e.2.1 ≠ 1 then (-1 : Int) else e.2.2.1) ≠ -1 := h
        by_cases y : e.2.1 = 1
        · have g := a3 y
          show vgd (if w k = 12 ∨ w k = 13 ∨ (w k = 1 ∧ (if (1 : Int) = 1 ∧ e.2.1 ≠ 1 then (-1 : Int) else e.2.2.1) = 1) then 1 else 0) e.2.2.2
          have ee : (if (1 : Int) = 1 ∧ e.2.1 ≠ 1 then (-1 : Int) else e.2.2.1) = e.2.2.1 := if_neg (fun u => u.2 y)
          rw [ee]
          rcases a2 with z | z
          · rw [if_neg (by omega)]
            rw [z] at g
            exact g
          · rw [if_pos (Or.inr (Or.inr ⟨h1, z⟩))]
            rw [z] at g
            exact g
        · rw [if_pos ⟨rfl, y⟩] at h'
          exact absurd rfl h'
    · unfold cv9
      rw [if_neg h1]
      by_cases h2 : w k = 2
      · rw [if_pos h2, if_neg (by omega)]
        exact vgd_w (hq k kn h2)
      · rw [if_neg h2]
        by_cases h3 : w k = 12
        · rw [if_pos h3, if_pos (Or.inl h3)]
          exact vgd_01.1
        · rw [if_neg h3, if_pos (Or.inr (Or.inl (by omega)))]
          exact vgd_01.2
  · rw [if_neg kn]
    exact vgd_01.2
theorem vlc_ok (hq : NqO w nq n) (hn : NmO w pl sm N n nms) (he : Eo w 6 i j) (hj : j ≤ n) (hf : (fl w (E9 sm nms 1) pl 0 i j).1 = 0) : vgd (kdq w (E9 sm nms 1) 0 i j) (vlq w (cv9 w nq sm nms) pl 0 0 i j) := by
  have e9 : vlq w (cv9 w nq sm nms) pl 0 0 i j = vlq w (fun k => if k < n then cv9 w nq sm nms k else (0, 0, 1)) pl 0 0 i j := vl_ci0 (fun k _ h => (if_pos (show k < n by omega)).symm) he
  rw [e9]
  exact vl_ok (cvc_ok hq hn) _ 0 _ _ (Nat.le_refl _) (Or.inl ⟨rfl, he⟩) hf (fun u => absurd u (by decide)) 0
theorem itr_nmo (hq : NqO w nq n) (hn : NmO w pl sm N n s.1) (he : e ≤ n) (eo : Eo w 6 (k + 3) e) (nx : nxq w 34 N (k + 1) = e) : NmO w pl sm N n (itr w pl nq sm k e s).1 := by
  unfold itr
  simp only []
  by_cases c1 : s.2.1.2.1 = 60
  · rw [if_pos c1]; exact hn
  rw [if_neg c1]
  by_cases c2 : fnd9 sm s.1 (k + 1) ≠ none
  · rw [if_pos c2]; exact hn
  rw [if_neg c2]
  by_cases c5 : w k = 3
  · simp only [if_pos c5]
    by_cases c3 : (fl w (E9 sm s.1 1) pl 0 (k + 3) e).1 ≠ 0
    · rw [if_pos c3]; exact hn
    rw [if_neg c3]
    have c3 := Decidable.not_not.mp c3
    by_cases c4 : (vlq w (cv9 w nq sm s.1) pl 0 0 (k + 3) e).1 ≠ 0
    · rw [if_pos c4]; exact hn
    rw [if_neg c4]
    exact NmO.add hn (show (1 : Nat) ≤ 1 ∧ 1 ≤ 3 by decide) kd_01 (fun _ => vlc_ok hq hn eo he c3) (fun u => absurd u (show ¬ (1 : Nat) = 2 by decide))
  · simp only [if_neg c5]
    by_cases c3 : (fl w (E9 sm s.1 0) pl 0 (k + 3) e).1 ≠ 0
    · rw [if_pos c3]; exact hn
    rw [if_neg c3]
    have c3 := Decidable.not_not.mp c3
    have z0 : ¬ ((0 : Int) ≠ 0) := fun u => u rfl
    rw [if_neg z0]
    refine NmO.add hn (show (1 : Nat) ≤ 2 ∧ 2 ≤ 3 by decide) kd_01 (fun u => absurd u (show ¬ (2 : Nat) = 1 by decide)) (fun _ => ?_)
    show Eo w 6 (k + 1 + 2) (nxq w 34 N (k + 1)) ∧ nxq w 34 N (k + 1) ≤ n ∧ (fl w (E9 sm s.1 0) pl 0 (k + 1 + 2) (nxq w 34 N (k + 1))).1 = 0 ∧ kdq w (E9 sm s.1 0) 0 (k + 3) e = kdq w (E9 sm s.1 0) 0 (k + 1 + 2) (nxq w 34 N (k + 1))
    rw [nx]
    exact ⟨eo, he, c3, rfl⟩
theorem ite_nmo (hq : NqO w nq n) (hn : NmO w pl sm N n s.1) (nN : n + 1 = N) (it : It w k e) (nx : nxq w 34 N k = e) (he : e < N) : NmO w pl sm N n (ite9 w pl nq sm N 60 k s).1 := by
  have lt := it.2.1
  have nx1 : nxq w 34 N (k + 1) = e := nxq_at (by omega) (by omega) it.1 (fun m m1 m2 => it.sg.2.2.2 m (by omega) m2)
  have hv : ∀ x : Int, (x = 0 ∨ x = 1) → NmO w pl sm N n (s.1 ++ [(k + 1, 3, x, ((0, 0, 1) : vrs))]) := fun x hx => NmO.add hn (show (1 : Nat) ≤ 3 ∧ 3 ≤ 3 by decide) hx (fun u => absurd u (show ¬ (3 : Nat) = 1 by decide)) (fun u => absurd u (show ¬ (3 : Nat) = 2 by decide))
  unfold ite9
  simp only [nx]
  rcases it.2.2 with ⟨h0, h1, h2, eo⟩ | ⟨h0, h1, h2, i, vs, hi⟩ | ⟨h0, j, f1, eo, w17, br⟩ | ⟨h0, eo⟩
  · rw [if_pos h0]
    exact itr_nmo hq hn (by omega) eo nx1
  · rw [if_neg (show ¬ (w k = 3 ∨ w k = 6) by omega), if_pos h0]
    unfold itv
    simp only []
    repeat' split
    all_goals first | exact hn | exact hv 1 (Or.inr rfl) | exact hv 0 (Or.inl rfl)
  · rw [if_neg (show ¬ (w k = 3 ∨ w k = 6) by omega), if_neg (show ¬ (w k = 4) by omega), if_neg (show ¬ (w k = 11) by omega)]
    unfold itc
    simp only []
    repeat' split
    all_goals exact hn
  · rw [if_neg (show ¬ (w k = 3 ∨ w k = 6) by omega), if_neg (show ¬ (w k = 4) by omega), if_pos h0]
    unfold itt
    simp only []
    repeat' split
    all_goals exact hn
theorem its_nmo (hq : NqO w nq n) (nN : n + 1 = N) : ∀ (f f' k : Nat) (s : st9), Ac w N f [50] k → NmO w pl sm N n s.1 → NmO w pl sm N n (its9 w pl nq sm N 60 f' k s).1 := by
  intro f
  induction f using Nat.strongRecOn with
  | ind f ih =>
    intro f' k s hac hn
    cases f' with
    | zero => exact hn
    | succ f' =>
      rw [its9]
      by_cases f0 : s.2.2.1 = 0
      · rw [if_neg (show ¬ s.2.2.1 ≠ 0 from fun u => u f0)]
        rcases ac_item hac with ⟨c0, c1⟩ | ⟨c0, e, g, hg, hit, hac'⟩
        · rw [if_pos c0]
          split
          · exact hn
          · exact hn
        · have eN := ac_le hac'
          have lt := hit.2.1
          have nx : nxq w 34 N k = e := nxq_at (by omega) (by omega) hit.1 (fun m m1 m2 => hit.sg.2.2.2 m m1 m2)
          rw [if_neg c0, nx]
          exact ih g hg f' (e + 1) _ hac' (ite_nmo hq hn nN hit nx (by omega))
      · rw [if_pos f0]
        exact hn
theorem nmo_nil : NmO w pl sm N n [] := fun l1 e l2 h => absurd h (by simp)
end PNM
section PNN
theorem numq_b {c : Nat → Int} {p : Nat} : ∀ l, (∀ j, p ≤ j → j < p + l → 48 ≤ c j ∧ c j ≤ 57) → 0 ≤ numq c p l ∧ numq c p l < 10 ^ l
  | 0, _ => ⟨Int.le_refl 0, by show (0 : Int) < 10 ^ 0; decide⟩
  | l + 1, h => by
    obtain ⟨h1, h2⟩ := numq_b l (fun j a b => h j a (by omega))
    have d := h (p + l) (by omega) (by omega)
    have e : (10 : Int) ^ (l + 1) = 10 ^ l * 10 := Int.pow_succ 10 l
    show 0 ≤ 10 * numq c p l + (c (p + l) - 48) ∧ 10 * numq c p l + (c (p + l) - 48) < 10 ^ (l + 1)
    rw [e]
    generalize (10 : Int) ^ l = t at h2 ⊢
    omega
theorem numq_9 {c : Nat → Int} {p l : Nat} (hl : l ≤ 9) (h : ∀ j, p ≤ j → j < p + l → 48 ≤ c j ∧ c j ≤ 57) : (numq c p l).natAbs ≤ 999999999 := by
  obtain ⟨h1, h2⟩ := numq_b l h
  have h3 : (10 : Int) ^ l ≤ 10 ^ 9 := by
    have : l = 0 ∨ l = 1 ∨ l = 2 ∨ l = 3 ∨ l = 4 ∨ l = 5 ∨ l = 6 ∨ l = 7 ∨ l = 8 ∨ l = 9 := by omega
    rcases this with y | y | y | y | y | y | y | y | y | y <;> subst y <;> decide
  have h4 : (10 : Int) ^ 9 = 1000000000 := by decide
  omega
/-- the numbers of the reference's words are small -/
theorem nqo_wx {M : mM} {a N n : Nat} (h : Wx M a N) (hn : n ≤ N) : NqO (wk M a) (nuq M a) n := fun k hk h2 => by
  obtain ⟨-, -, -, wo, -⟩ := h
  obtain ⟨-, ⟨b1, b2, b3⟩, -, b4, -⟩ := wo k (by omega)
  obtain ⟨c1, c2⟩ := b4 h2
  unfold nuq
  refine numq_9 (by omega) (fun j j1 j2 => c2 j (by omega) (by omega))
end PNN
/-- the vars' ranges and inits are sound -/
def VlO (nms : List nm9) (vl : List (Int × Int × Int)) : Prop := vl.length = vcn nms ∧ (∀ (v : Nat) (x : Int × Int × Int), vl[v]? = some x → (x.1.natAbs ≤ 999999999 ∧ x.2.1.natAbs ≤ 999999999) ∧ x.1 ≤ x.2.2 ∧ x.2.2 ≤ x.2.1) ∧ ∀ l1 e l2, nms = l1 ++ e :: l2 → e.2.1 = 3 → e.2.2.1 = 1 → ∀ x, vl[vcn l1]? = some x → x.1 = 0 ∧ x.2.1 = 1
/-- a text's names and numbers are sound -/
def GaO (γ : gW9) : Prop := NqO γ.1 γ.2.2.1 (γ.2.2.2.2.1 - 1) ∧ NmO γ.1 γ.2.1 γ.2.2.2.1 γ.2.2.2.2.1 (γ.2.2.2.2.1 - 1) γ.2.2.2.2.2.1 ∧ VlO γ.2.2.2.2.2.1 γ.2.2.2.2.2.2.1
section PNO
theorem vlo_get {nms : List nm9} {vl : List (Int × Int × Int)} (h : VlO nms vl) {l1 l2 : List nm9} {e : nm9} (he : nms = l1 ++ e :: l2) (h3 : e.2.1 = 3) : ∃ x, vl[vcn l1]? = some x ∧ vl.getD (vcn l1) (0, 0, 0) = x ∧ (x.1.natAbs ≤ 999999999 ∧ x.2.1.natAbs ≤ 999999999) ∧ (x.1 ≤ x.2.2 ∧ x.2.2 ≤ x.2.1) ∧ (e.2.2.1 = 1 → x.1 = 0 ∧ x.2.1 = 1) := by
  have e9 : vcn (e :: l2) = vcn l2 + 1 := by
    show vcn l2 + (if e.2.1 = 3 then 1 else 0) = _
    rw [if_pos h3]
  have lt : vcn l1 < vl.length := by
    rw [h.1, he, vcn_app, e9]
    omega
  have hx := List.getElem?_eq_getElem lt
  obtain ⟨h2, h4⟩ := h.2.1 _ _ hx
  exact ⟨_, hx, by rw [List.getD_eq_getElem?_getD, hx]; rfl, h2, h4, fun u => h.2.2 l1 e l2 he h3 u _ hx⟩
theorem vlo_vr {nms : List nm9} {vl : List (Int × Int × Int)} (h : VlO nms vl) : VrO nms (fun v => (vl.getD v (0, 0, 0)).1) (fun v => (vl.getD v (0, 0, 0)).2.1) := fun l1 e l2 he h3 => by
  obtain ⟨x, -, hd, h1, -, h4⟩ := vlo_get h he h3
  show ((vl.getD (vcn l1) (0, 0, 0)).1.natAbs ≤ 999999999 ∧ (vl.getD (vcn l1) (0, 0, 0)).2.1.natAbs ≤ 999999999) ∧ (e.2.2.1 = 1 → (vl.getD (vcn l1) (0, 0, 0)).1 = 0 ∧ (vl.getD (vcn l1) (0, 0, 0)).2.1 = 1)
  rw [hd]
  exact ⟨h1, h4⟩
theorem vlo_s0 {nms : List nm9} {vl : List (Int × Int × Int)} (h : VlO nms vl) : SgO (fun v => (vl.map (fun x : Int × Int × Int => x.2.2)).getD v 0) nms := fun l1 e l2 he h3 => by
  obtain ⟨x, hx, -, h1, h2, h4⟩ := vlo_get h he h3
  have e0 : (vl.map (fun x : Int × Int × Int => x.2.2)).getD (vcn l1) 0 = x.2.2 := by
    rw [List.getD_eq_getElem?_getD, List.getElem?_map, hx]
    rfl
  show ((vl.map (fun x : Int × Int × Int => x.2.2)).getD (vcn l1) 0).natAbs ≤ 999999999 ∧ (e.2.2.1 = 1 → (vl.map (fun x : Int × Int × Int => x.2.2)).getD (vcn l1) 0 = 0 ∨ (vl.map (fun x : Int × Int × Int => x.2.2)).getD (vcn l1) 0 = 1)
  rw [e0]
  exact ⟨by omega, fun u => by have := h4 u; omega⟩
/-- the reference's draft: its vars are sound -/
theorem vlo_dg {M : mM} {a g K R W C Z T : Nat} {E : Eg9} {tg : Int} (hD : Dg M g R W C Z T E tg) (hS : RSq M a g K E.2.2.2.2.2.2.1) : VlO E.2.2.2.2.2.2.1 E.2.2.2.2.2.2.2.1 := by
  obtain ⟨-, -, -, hV, -, -, -, ⟨hr, hw⟩, -, ⟨hv, hv'⟩, -⟩ := hD
  refine ⟨hv.trans hw.symm, fun v x hx => ?_, fun l1 e l2 he h3 h1 x hx => ?_⟩
  · have lt := (List.getElem?_eq_some_iff.mp hx).1
    obtain ⟨y1, y2, y3⟩ := hv' v x hx
    obtain ⟨-, z2, z3, z4, z5, -⟩ := hV v (by omega)
    rw [y1, y3] at z2
    rw [y2, y3] at z3
    rw [y1] at z4
    rw [y2] at z5
    exact ⟨⟨by omega, by omega⟩, z2, z3⟩
  · have lt := (List.getElem?_eq_some_iff.mp hx).1
    obtain ⟨y1, y2, y3⟩ := hv' _ x hx
    obtain ⟨z1, -⟩ := hV (vcn l1) (by omega)
    have ge : E.2.2.2.2.2.2.1[l1.length]? = some e := by
      rw [he, List.getElem?_append_right (Nat.le_refl _), Nat.sub_self]
      rfl
    have lq : l1.length < K := by
      rw [← hS.1]
      exact (List.getElem?_eq_some_iff.mp ge).1
    obtain ⟨e', q1, q2, q3, q4, q5, q6, q7⟩ := hS.2.1 l1.length lq
    rw [ge] at q1
    have ee : e = e' := Option.some.inj q1
    subst ee
    rw [if_pos h3] at q7
    have tk : E.2.2.2.2.2.2.1.take l1.length = l1 := by
      rw [he, List.take_left']
      rfl
    rw [tk] at q7
    have q33 : nt M (a + 87) l1.length = 3 := by
      rw [q3, h3]
      rfl
    rw [h1, if_pos q33, q7] at q5
    unfold tn at q5
    rw [if_pos (show (100 : Int) ≤ 100 + ((vcn l1 : Nat) : Int) by omega), show (100 + ((vcn l1 : Nat) : Int) - 100).toNat = vcn l1 by omega] at q5
    have := z1 (fun u => by rw [if_pos u] at q5; exact absurd q5 (by decide))
    rw [← y1, ← y2]
    exact this
end PNO
end
section
/-! The reference's solver in a memory that agrees on its cells. -/
section AG
variable {M M' : mM} {s e f r n : Nat}
/-- the cells from s to e are the same -/
def Ag (M M' : mM) (s e : Nat) : Prop := ∀ x, s ≤ x → x ≤ e → mK M' x = mK M x ∧ mN M' x = mN M x ∧ mR M' x = mR M x ∧ mI M' x = mI M x
theorem Ag.sub {s' e' : Nat} (h : Ag M M' s e) (h1 : s ≤ s') (h2 : e' ≤ e) : Ag M M' s' e' := fun x a b => h x (by omega) (by omega)
theorem Wh.ag {a : Nat} (h : Wh M a r) (k : Ag M M' a (a + 1)) : Wh M' a r := by
  obtain ⟨k1, k2, k3, k4⟩ := k a (Nat.le_refl _) (by omega)
  obtain ⟨q1, q2, q3, q4⟩ := k (a + 1) (by omega) (Nat.le_refl _)
  unfold Wh at h ⊢
  rw [k1, k3, k4, q1, q2]
  exact h
theorem wv.ag {a : Nat} (k : Ag M M' a (a + 1)) : wv M' a = wv M a := by
  unfold wv
  rw [(k a (Nat.le_refl _) (by omega)).2.2.2, (k (a + 1) (by omega) (Nat.le_refl _)).2.2.2]
theorem W3.ag {a : Nat} (h : W3 M a r) (k : Ag M M' a (a + 1)) : W3 M' a r := by
  obtain ⟨h1, h2, h3⟩ := h
  refine ⟨h1.ag k, ?_, ?_⟩
  · unfold WD at h2 ⊢
    rw [(k a (Nat.le_refl _) (by omega)).2.2.2, (k (a + 1) (by omega) (Nat.le_refl _)).2.2.2]
    exact h2
  · unfold WT at h3 ⊢
    rw [(k a (Nat.le_refl _) (by omega)).2.2.2, (k (a + 1) (by omega) (Nat.le_refl _)).2.2.2]
    exact h3
theorem Fk.ag (h : Fk M f) (k : Ag M M' f f) : Fk M' f := by
  obtain ⟨k1, k2, k3, k4⟩ := k f (Nat.le_refl _) (Nat.le_refl _)
  unfold Fk at h ⊢
  rw [k1, k3]
  exact h
theorem Ft.ag (h : Ft M f r) (k : Ag M M' f (f + 4)) : Ft M' f r :=
  ⟨h.1.ag (k.sub (by omega) (by omega)), h.2.1.ag (k.sub (by omega) (by omega)), h.2.2.ag (k.sub (by omega) (by omega))⟩
theorem Fq.ag (h : Fq M f r) (k : Ag M M' f (f + 4)) : Fq M' f r := by
  obtain ⟨h1, h2, h3, h4, h5⟩ := h
  refine ⟨h1.ag (k.sub (by omega) (by omega)), h2.ag (k.sub (by omega) (by omega)), h3.ag (k.sub (by omega) (by omega)), ?_, ?_⟩
  · rw [(k f (Nat.le_refl _) (by omega)).2.2.2]; exact h4
  · rw [wv.ag (k.sub (by omega) (by omega))]; exact h5
theorem Fc.ag (h : Fc M f) (k : Ag M M' f (f + 4)) : Fc M' f := by
  unfold Fc xn at h ⊢
  rw [(k f (Nat.le_refl _) (by omega)).2.2.2, wv.ag (a := f + 1) (k.sub (by omega) (by omega)), wv.ag (a := f + 3) (k.sub (by omega) (by omega))]
  exact h
theorem fv.ag (k : Ag M M' f (f + 4)) : fv M' f = fv M f := by
  unfold fv sn sd
  rw [(k f (Nat.le_refl _) (by omega)).2.2.2, wv.ag (a := f + 1) (k.sub (by omega) (by omega)), wv.ag (a := f + 3) (k.sub (by omega) (by omega))]
theorem Sz.ag {u : Nat} (h : Sz M u) (k : Ag M M' u (u + 20)) : Sz M' u := by
  obtain ⟨h1, h2, h3, h4⟩ := h
  refine ⟨?_, h2.ag (k.sub (by omega) (by omega)), h3.ag (k.sub (by omega) (by omega)), fun c hc => ?_⟩
  · obtain ⟨k1, k2, k3, k4⟩ := k u (Nat.le_refl _) (by omega)
    unfold Sk at h1 ⊢
    rw [k1, k3]
    exact h1
  · have hc' : c = 2 ∨ c = 4 ∨ c = 7 ∨ c = 9 ∨ c = 11 ∨ c = 13 ∨ c = 15 ∨ c = 17 ∨ c = 19 := by
      have : c ∈ [2, 4, 7, 9, 11, 13, 15, 17, 19] := hc
      simpa using this
    exact (h4 c hc).ag (k.sub (by omega) (by omega))
theorem Vk.ag (h : Vk M s) (k : Ag M M' s (s + 21067)) : Vk M' s := by
  have kK : ∀ i, i ≤ 67 → mK M' (s + i) = mK M (s + i) := fun i hi => (k (s + i) (by omega) (by omega)).1
  have kN : ∀ i, i ≤ 67 → mN M' (s + i) = mN M (s + i) := fun i hi => (k (s + i) (by omega) (by omega)).2.1
  have kR : ∀ i, i ≤ 67 → mR M' (s + i) = mR M (s + i) := fun i hi => (k (s + i) (by omega) (by omega)).2.2.1
  have k0 := k s (Nat.le_refl _) (by omega)
  unfold Vk at h ⊢
  rw [k0.1, k0.2.2.1, kK 22 (by omega), kK 23 (by omega), kK 24 (by omega), kK 25 (by omega), kK 26 (by omega), kK 27 (by omega), kK 28 (by omega), kK 29 (by omega), kK 30 (by omega), kK 31 (by omega), kK 32 (by omega), kK 33 (by omega), kK 34 (by omega), kK 35 (by omega), kK 36 (by omega), kK 37 (by omega), kK 38 (by omega), kK 39 (by omega), kK 40 (by omega), kK 41 (by omega), kK 67 (by omega), kN 22 (by omega), kN 23 (by omega), kN 24 (by omega), kN 25 (by omega), kN 26 (by omega), kN 27 (by omega), kN 28 (by omega), kN 29 (by omega), kN 30 (by omega), kN 31 (by omega), kN 32 (by omega), kN 33 (by omega), kN 34 (by omega), kN 35 (by omega), kN 36 (by omega), kN 37 (by omega), kN 38 (by omega), kN 39 (by omega), kN 40 (by omega), kN 41 (by omega), kN 67 (by omega), kR 29 (by omega), kR 31 (by omega), kR 38 (by omega), kR 41 (by omega)]
  exact h
theorem sameG.ag (k : Ag M M' s (s + 21067)) : sameG M M' s := by
  have k0 := (k s (Nat.le_refl _) (by omega)).2.2.2
  exact ⟨by rw [k0], by rw [k0], by rw [k0], fun x a b => (k x (by omega) (by omega)).2.2.2⟩
theorem Sv.ag (h : Sv M s n) (k : Ag M M' s (s + 21067)) : Sv M' s n := by
  have hn5 := h.n5
  obtain ⟨V, g, c, e, t, W, T, R, H, hc⟩ := h
  have sg := sameG.ag k
  have kI : ∀ i, i ≤ 21067 → mI M' (s + i) = mI M (s + i) := fun i hi => (k (s + i) (by omega) (by omega)).2.2.2
  refine ⟨V.ag k, sg.gw g, sg.gb c, by rw [sg.1]; exact e, t.out sg (kI 32 (by omega)), ⟨W.1.ag (k.sub (by omega) (by omega)), W.2.1.ag (k.sub (by omega) (by omega)), W.2.2.1.ag (k.sub (by omega) (by omega)), W.2.2.2.1.ag (k.sub (by omega) (by omega)), W.2.2.2.2.1.ag (k.sub (by omega) (by omega)), W.2.2.2.2.2.ag (k.sub (by omega) (by omega))⟩, fun i j hi hj => (T i j hi hj).ag (k.sub (by unfold cel; omega) (by unfold cel; omega)), fun e he i hi => (R e he i hi).ag (k.sub (by omega) (by omega)), fun w hw => ?_, fun q => (hc (by rw [← kI 30 (by omega)]; exact q)).out sg (kI 33 (by omega))⟩
  obtain ⟨h1, h2⟩ := H w hw
  unfold Hs
  rw [kI 30 (by omega)]
  refine ⟨h1, fun q => ?_⟩
  obtain ⟨x, X, v⟩ := h2 q
  refine ⟨x, fun i hi => ?_, v⟩
  obtain ⟨x1, x2, x3⟩ := X i hi
  have ka : Ag M M' (s + (68 + 5 * w) + 25 * i) (s + (68 + 5 * w) + 25 * i + 4) := k.sub (by omega) (by omega)
  exact ⟨x1.ag ka, x2.ag ka, by rw [fv.ag ka]; exact x3⟩
end AG
end
