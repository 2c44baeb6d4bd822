/-! The reference's items, exactly: const and formula. -/
section RIX
variable {G : mG} {d a g R W C Z T N K : Nat} {M M' M2 M3 : mM} {E : Eg9} {tg : Int} {s s' : st9} {nms : List nm9}
/-- the text in memory, names, a game -/
noncomputable def txg (M : mM) (a N : Nat) (nms : List nm9) (gm : gm9) : gW9 := (wk M a, nt M (a + 7), nuq M a, smx M a, N, nms, gm)
theorem SXq.tx9 (h : SXq M a M') {nms : List nm9} {gm : gm9} : txg M' a N nms gm = txg M a N nms gm := by
  unfold txg
  rw [h.1, h.2.1, h.nu, h.sm]
/-- the draft is sound, and it is the pure state s and the pure game gm -/
def DfS (M : mM) (a g N k : Nat) (s : st9) (gm : gm9) : Prop := ∃ (T K R W C Z : Nat) (E : Eg9) (tg : Int), Df M a g N T K R W C Z E tg ∧ (T ≤ k ∧ Z ≤ k) ∧ RSq M a g K s.1 ∧ s.2.1 = (W, R, C, if tg = -1 then 0 else 1) ∧ E.2 = txg M a N s.1 gm
/-- an item has been read: s' tells the fault or the draft -/
def itX (M : mM) (a g N k : Nat) (s' : st9) (gm : gm9) (M' : mM) : Prop := iF M a g M' ∧ ((s'.2.2.1 ≠ 0 ∧ fpw M' a s'.2.2) ∨ (s'.2.2.1 = 0 ∧ mI M' a 16 = 0 ∧ DfS M' a g N k s' gm))
/-- a fault is told at a word -/
theorem x_st_it {gm : gm9} {c : Int} {k k' : Nat} (hc : c ≠ 0) (hc2 : i32 c) (h : Lc M a g N T K) (hk : k < N) (es : s'.2.2 = (c, nt M (a + 7) k)) : Ci G y_MM_place0 (d + 1) [vr a, vi k] M (fun x M2 => i32 x ∧ mOk M2 ∧ (mK M2 a = 14 ∧ Cv G y_MM_stop (d + 1) [vr a, vi c, vi x] M2 (fun M3 => mOk M3 ∧ (mOk M3 ∧ itX M a g N k' s' gm M3)))) := by
  have w := h.2.1.1.1
  refine (s_MM_place0 (d := d) h.1 h.2.1 hk).mono (fun y M4 h4 => ?_)
  obtain ⟨e4, hy⟩ := h4
  subst e4
  have hy32 : i32 y := by rw [hy]; exact (h.1 _ _).1
  refine ⟨hy32, h.1, w.1.1, (s_MM_stop hc2 hy32 h.1 w).mono (fun M5 h5 => ⟨h5.1.1, h5.1.1, (st_it (g := g) (N := N) (k := k') w hc h5).1, Or.inl ?_⟩)⟩
  rw [es]
  exact ⟨hc, h5.2.1, by rw [h5.2.2.1]; exact hy⟩
/-- names stay, nothing of theirs has changed -/
theorem RSq.eq (h : RSq M a g K nms) (hs : ∀ q, q < K → nt M' (a + 85) q = nt M (a + 85) q ∧ nt M' (a + 87) q = nt M (a + 87) q ∧ nt M' (a + 89) q = nt M (a + 89) q) (ht : tn M' g = tn M g) (hl : mL M' (g + 16) = mL M (g + 16) ∧ mL M' (g + 17) = mL M (g + 17)) (sx : SXq M a M') : RSq M' a g K nms := by
  obtain ⟨h1, h2, h3, h4⟩ := h
  refine ⟨h1, fun q hq => ?_, fun p q hpq hq => ?_, fun p q hpq hq => by rw [(hs p (by omega)).2.1, (hs q hq).2.1, (hs p (by omega)).2.2, (hs q hq).2.2]; exact h4 p q hpq hq⟩
  · obtain ⟨e', g1, g2, g3, g4, g5, g6, g7⟩ := h2 q hq
    obtain ⟨s1, s2, s3⟩ := hs q hq
    exact ⟨e', g1, by rw [s1]; exact g2, by rw [s2]; exact g3, g4, by rw [g5, s2, s3, ht], fun z => by rw [g6 z, s3, hl.1, hl.2], by rw [s3]; exact g7⟩
  · rw [sx.sm, (hs p (by omega)).1, (hs q hq).1]
    exact h3 p q hpq hq
/-- the lists of names are the same -/
def lst3 (M : mM) (a : Nat) (M' : mM) : Prop := sameN M M' (a + 85) ∧ sameN M M' (a + 87) ∧ sameN M M' (a + 89)
theorem lst3.trans (h : lst3 M a M2) (k : lst3 M2 a M3) : lst3 M a M3 := ⟨h.1.trans k.1, h.2.1.trans k.2.1, h.2.2.trans k.2.2⟩
theorem lst3.q (h : lst3 M a M') (K : Nat) : ∀ q, q < K → nt M' (a + 85) q = nt M (a + 85) q ∧ nt M' (a + 87) q = nt M (a + 87) q ∧ nt M' (a + 89) q = nt M (a + 89) q := fun q _ => ⟨h.1.2.1 q, h.2.1.2.1 q, h.2.2.2.1 q⟩
theorem lst3.of {P S : Nat → Prop} (m : Mv P S M a M') (h : ∀ i, i = 85 ∨ i = 87 ∨ i = 89 → ¬ P (a + i)) : lst3 M a M' := ⟨m.lst n85 (h 85 (by omega)), m.lst n87 (h 87 (by omega)), m.lst n89 (h 89 (by omega))⟩
theorem lst3.fd (h : lst3 M a M') (sx : SXq M a M') (y : Nat) : fdn M' a K y = fdn M a K y := by
  refine fdn_un ?_
  have k := fdn_x (M := M') (a := a) (K := K) y
  have e85 : ∀ k, nt M' (a + 85) k = nt M (a + 85) k := h.1.2.1
  unfold fdx at k ⊢
  simp only [sx.sm, e85] at k
  exact k
theorem lst3.rv (h : lst3 M a M') (sx : SXq M a M') : rvn M' a K = rvn M a K := by
  funext y
  unfold rvn
  rw [h.fd sx, h.2.1.2.1, h.2.2.2.1]
/-- a known name -/
theorem RSq.kw (h : RSq M a g K nms) {y : Nat} {r : Int} (hf : fdx M a K y r) : (r = -1 → fnd9 (smx M a) nms y = none) ∧ (r ≠ -1 → fnd9 (smx M a) nms y ≠ none) := by
  rw [fdn_un hf]
  rcases h.fnd y with ⟨h1, h2⟩ | ⟨q, e, h1, h2, h3, h4⟩
  · exact ⟨fun _ => h2, fun z => absurd h1 z⟩
  · refine ⟨fun z => by omega, fun _ => ?_⟩
    rw [h4]
    exact fun z => by cases z
theorem x_ri187 {nwe : nm9} {gm : gm9} {k T' : Nat} {v6 : Int} {E' : Eg9} {M9 : mM} (eE : E'.2 = txg M a N (s.1 ++ [nwe]) gm) (hRr : rcn s.1 = R) (h : Df M a g N T K R W C Z E tg) (hR : R < 60) (hk : k + 1 < N) (hT' : T' ≤ k + 20000) {e : Nat} (hTe : T' ≤ e) (hZe : Z ≤ e) (i6 : i32 v6) (L9 : Lc M9 a g N T' K) (I9 : iF M a g M9) (gI9 : mI M9 g = mI M g) (z30 : ln M9 (g + 30) = ln M (g + 30)) (z32 : ln M9 (g + 32) = ln M (g + 32)) (z34 : ln M9 (g + 34) = ln M (g + 34)) (h13 : mI M9 (g + 13) R = v6) (hD9 : mI M9 a 16 = 0 → Dg M9 g (R + 1) W C Z T' E' tg) (hwk : wk M a k = 3 ∨ wk M a k = 6) (hv6 : v6 = if wk M a k = 6 then 1 else 0) (hRS : RSq M9 a g K s.1) (h3 : lst3 M a M9) (hnew : fdn M a K (k + 1) = -1) (hst : s.2.1 = (W, R, C, if tg = -1 then 0 else 1)) (flt : mI M9 a 16 ≠ 0 → s'.2.2.1 ≠ 0 ∧ fpw M9 a s'.2.2) (good : mI M9 a 16 = 0 → s' = (s.1 ++ [nwe], (W, R + 1, C, if tg = -1 then 0 else 1), (0, 0)) ∧ nwe.1 = k + 1 ∧ nwe.2.1 = (if wk M a k = 3 then 1 else 2) ∧ nwe.2.2.1 = tn M9 g R ∧ (nwe.2.1 = 1 → nwe.2.2.2 = vr9 nwe.2.2.1 (mL M9 (g + 16) R) (mL M9 (g + 17) R))) : h_MM_ruleItem_187 G (d + 6) a k v6 R M9 (fun M' => mOk M' ∧ itX M a g N e s' gm M') := by
  obtain ⟨hL, ⟨g6, g12, g18, g17⟩, ⟨y30, y32, y34⟩, hK, hD⟩ := id h
  have hN := hL.2.1.1.2.2
  have hg := hL.2.2.2.2.2.1
  have hW := hD.1
  have w9 := L9.2.1.1.1
  have d9 : mR M9 a 10 = g := L9.2.2.2.2.1
  refine k_MM_ruleItem_187 L9.1 (i32s (by omega) (by omega)) i6 (i32s (by omega) (by omega)) ?_
  rw [d9]
  refine ⟨w9.1.1, (w9.gp hg).1, i32s (by omega) (by omega), fun M1 e1 v hv => ?_⟩
  have a0 := goff0 hg
  obtain ⟨m1, f1, l1⟩ := mv_cell (v := (R : Int) + 1) (i32s (by omega) (by omega)) L9.1 w9 (show a ≤ g by omega) ⟨a0.1, a0.2.1, a0.2.2.1⟩ e1
  have no : ∀ q : Nat, False → q ∈ nums a := fun _ z => z.elim
  have aI1 := (m1.fld w9 no (by omega)).1
  have g1 : ∀ i, mI M1 g i = if i = 6 then (R : Int) + 1 else mI M g i := fun i => by
    rw [f1]
    by_cases z : i = 6
    · rw [if_pos ⟨rfl, z⟩, if_pos z]
    · rw [if_neg (fun y => z y.2), if_neg z, gI9]
  have x6 : mI M1 g 6 = (R : Int) + 1 := by rw [g1, if_pos rfl]
  have x12 : mI M1 g 12 = W := by rw [g1, if_neg (by omega), g12]
  have L1 : Lc M1 a g N T' K := L9.mv m1 no (fun _ z => z.elim) (by rw [x6, gI9, g6]; omega) (by rw [x12, gI9, g12]; omega) ⟨by omega, by omega⟩ (fun r _ => by rw [f1, if_neg (fun z => by omega)])
  have I1 : iF M a g M1 := I9.trans (iF.mk w9 m1 (fun _ z => z.elim) (fun x z => Or.inr (Or.inl (by omega))) (fun i _ _ _ => by rw [aI1]))
  have w1 := m1.2.1
  have hK2 : K ≤ 72 := by omega
  have hv' : v = 1 ∨ v = 2 := by split at hv <;> omega
  refine (s_MM_know (d := d + 5) (u := (k : Int) + 1) (i32s (by omega) (by omega)) (i32s (by omega) (by omega)) (i32s (by omega) (by omega)) L1.1 w1 L1.2.2.1.1 L1.2.2.1.2.1 L1.2.2.1.2.2.1 (by omega)).mono (fun M2 t => ?_)
  obtain ⟨o2, m2, l2, p2, e2, s2, x2⟩ := t
  obtain ⟨L2, gI2, aI2⟩ := L1.kn (by omega) m2 l2 p2 e2 s2 x2 (by omega) (Or.inr ⟨hv', by omega, by omega⟩) (fun z => by
    rw [Int.toNat_natCast, f1, if_neg (fun y => by omega), h13]
    split at hv <;> omega)
  obtain ⟨G2, q30, q32, q34⟩ := ge_kn (R := R + 1) (W := W) (C := C) (Z := Z) (T := T') w1 hg m2
  have I2 : iF M a g M2 := I1.trans (iF.mk w1 m2 (fun q hq => knP_it hq) (fun _ z => z.elim) (fun i _ _ _ => by rw [aI2]))
  have no2 : ∀ q : Nat, ¬ False := fun _ z => z
  refine ⟨o2, o2, I2, ?_⟩
  have e16 : mI M2 a 16 = mI M9 a 16 := by rw [aI2, aI1]
  by_cases z16 : mI M2 a 16 = 0
  · have z9 : mI M9 a 16 = 0 := by rw [← e16]; exact z16
    obtain ⟨u1, u2, u3, u4, u5⟩ := good z9
    refine Or.inr ⟨by rw [u1], z16, T', K + 1, R + 1, W, C, Z, E', tg, ⟨L2, ⟨by rw [gI2, x6]; omega, by rw [gI2, x12], by rw [gI2, g1, if_neg (by omega), g18], by rw [gI2, g1, if_neg (by omega), g17]⟩, ⟨?_, ?_, ?_⟩, by omega, ?_⟩, ⟨hTe, hZe⟩, ?_, by rw [u1], ?_⟩
    · rw [q30, (m1.lst (n30 hg) (fun z => z)).1, z30, y30]
    · rw [q32, (m1.lst (n32 hg) (fun z => z)).1, z32, y32]
    · rw [q34, (m1.lst (n34 hg) (fun z => z)).1, z34, y34]
    · have D9 := hD9 (by rw [← e16]; exact z16)
      have G1 : Ge M9 g (R + 1) W C Z T' M1 := ge_mv w9 hg m1 no (fun z => z) (fun z => z) (fun z => z) (fun i i1 i2 (z : g + i = g) => by omega) (fun n _ => ⟨(m1.lst (tL_in (q := g + 1) hg (tLk1 g)) (fun z => z)).2.1 n, (m1.lst (tL_in (q := g + 7) hg (tLk7 g)) (fun z => z)).2.1 n, (m1.lst (tL_in (q := g + 9) hg (tLk9 g)) (fun z => z)).2.1 n, (m1.lst (tL_in (q := g + 11) hg (tLk11 g)) (fun z => z)).2.1 n, (m1.lst (tL_in (q := g + 3) hg (tLk3 g)) (fun z => z)).2.1 n⟩)
      exact (D9.ge G1).ge G2
    · have t1 : tn M1 g = tn M9 g := by
        funext v
        unfold tn
        rw [show mI M1 (g + 18) = mI M9 (g + 18) from funext (fun i => by rw [f1, if_neg (fun z => by omega)]), show mI M1 (g + 14) = mI M9 (g + 14) from funext (fun i => by rw [f1, if_neg (fun z => by omega)])]
      have c14 := m2.cellL w1 (fun q hq => knP_in hq) (goffx (i := 14) hg (by decide) (by decide)) (fun z => z)
      have c16 := m2.cellL w1 (fun q hq => knP_in hq) (goffx (i := 16) hg (by decide) (by decide)) (fun z => z)
      have c17 := m2.cellL w1 (fun q hq => knP_in hq) (goffx (i := 17) hg (by decide) (by decide)) (fun z => z)
      have c18 := m2.cellL w1 (fun q hq => knP_in hq) (goffx (i := 18) hg (by decide) (by decide)) (fun z => z)
      have t2 : tn M2 g = tn M1 g := by
        funext v
        unfold tn
        rw [c18.1, c14.1]
      have sx9 := I9.sx hL.2.1.1.1 hg
      have sx1 : SXq M9 a M1 := (iF.mk (g := g) w9 m1 (fun _ z => z.elim) (fun x z => Or.inr (Or.inl (by omega))) (fun i _ _ _ => by rw [aI1])).sx w9 hg
      have sx2 : SXq M1 a M2 := (iF.mk (g := g) w1 m2 (fun q hq => knP_it hq) (fun _ z => z.elim) (fun i _ _ _ => by rw [aI2])).sx w1 hg
      have l31 : lst3 M9 a M1 := lst3.of m1 (fun _ _ z => z)
      have RS1 : RSq M1 a g K s.1 := hRS.eq (l31.q K) t1 ⟨by rw [l1], by rw [l1]⟩ sx1
      rw [u1]
      refine RS1.kn (u := k + 1) p2 t2 ⟨c16.2, c17.2⟩ sx2 (by rw [e2]; omega) s2 x2 u2 ?_ (by rw [u3]; split <;> decide) ?_ (fun z => ?_) ?_ (fun z => absurd z (by omega)) (by rw [hRr, if_neg (by rw [u3]; split <;> decide)])
      · rw [u3, hv, hv6]
        rcases hwk with q | q
        · simp [q]
        · simp [q]
      · rw [u4, t1]
        rw [if_neg (by omega)]
      · rw [u5 z, l1, Int.toNat_natCast]
      · rw [l31.fd sx1, h3.fd sx9]
        exact hnew
    · rw [eE, u1, (I2.sx hL.2.1.1.1 hg).tx9]
  · obtain ⟨u1, u2⟩ := flt (by rw [← e16]; exact z16)
    refine Or.inl ⟨u1, ?_, ?_⟩
    · rw [e16]; exact u2.1
    · rw [show mI M2 a 17 = mI M9 a 17 by rw [aI2, aI1]]; exact u2.2
/-! what a const or formula comes to -/
theorem itr_many {w pl nq : Nat → Int} {sm : Nat → Nat → Prop} {k e : Nat} (h : s.2.1.2.1 = 60) : (itr w pl nq sm k e s).2.2 = (5, pl k) := by
  unfold itr
  rw [if_pos h]
theorem itr_known {w pl nq : Nat → Int} {sm : Nat → Nat → Prop} {k e : Nat} (h : s.2.1.2.1 ≠ 60) (h2 : fnd9 sm s.1 (k + 1) ≠ none) : (itr w pl nq sm k e s).2.2 = (2, pl (k + 1)) := by
  unfold itr
  rw [if_neg h, if_pos h2]
theorem itr_fl {w pl nq : Nat → Int} {sm : Nat → Nat → Prop} {k e : Nat} (h : s.2.1.2.1 ≠ 60) (h2 : fnd9 sm s.1 (k + 1) = none) (h3 : (fl w (E9 sm s.1 (if w k = 3 then 1 else 0)) pl 0 (k + 3) e).1 ≠ 0) : (itr w pl nq sm k e s).2.2 = fl w (E9 sm s.1 (if w k = 3 then 1 else 0)) pl 0 (k + 3) e := by
  unfold itr
  rw [if_neg h, if_neg (fun z => z h2), if_pos h3]
theorem itr_vl {w pl nq : Nat → Int} {sm : Nat → Nat → Prop} {k e : Nat} (h : s.2.1.2.1 ≠ 60) (h2 : fnd9 sm s.1 (k + 1) = none) (h3 : (fl w (E9 sm s.1 (if w k = 3 then 1 else 0)) pl 0 (k + 3) e).1 = 0) (hw : w k = 3) (h4 : (vlq w (cv9 w nq sm s.1) pl 0 0 (k + 3) e).1 ≠ 0) : (itr w pl nq sm k e s).2.2 = ((vlq w (cv9 w nq sm s.1) pl 0 0 (k + 3) e).1, (vlq w (cv9 w nq sm s.1) pl 0 0 (k + 3) e).2.1) := by
  unfold itr
  rw [if_neg h, if_neg (fun z => z h2), if_neg (fun z => z h3)]
  simp only [hw, if_true]
  rw [if_pos h4]
theorem itr_ok {w pl nq : Nat → Int} {sm : Nat → Nat → Prop} {k e : Nat} {v : vrs} (h : s.2.1.2.1 ≠ 60) (h2 : fnd9 sm s.1 (k + 1) = none) (h3 : (fl w (E9 sm s.1 (if w k = 3 then 1 else 0)) pl 0 (k + 3) e).1 = 0) (hv : v = if w k = 3 then vlq w (cv9 w nq sm s.1) pl 0 0 (k + 3) e else (0, 0, 1)) (h4 : v.1 = 0) : itr w pl nq sm k e s = (s.1 ++ [(k + 1, (if w k = 3 then 1 else 2), kdq w (E9 sm s.1 (if w k = 3 then 1 else 0)) 0 (k + 3) e, v)], (s.2.1.1, s.2.1.2.1 + 1, s.2.1.2.2), (0, 0)) := by
  unfold itr
  rw [if_neg h, if_neg (fun z => z h2), if_neg (fun z => z h3)]
  simp only [← hv]
  rw [if_neg (fun z => z h4)]
end RIX
