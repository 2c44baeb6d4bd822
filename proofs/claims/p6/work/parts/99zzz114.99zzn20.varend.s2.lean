section
/-! The reference's branches, exactly. -/
/-- one branch: its fault, and where it ends -/
noncomputable def bsf (w pl : Nat → Int) (sm : Nat → Nat → Prop) (N : Nat) (nms : List nm9) (p q : Nat) : (Int × Int) × Nat := if (rf9 w pl sm nms 0 0 p q).1 ≠ 0 then (rf9 w pl sm nms 0 0 p q, 0) else if w (q + 1) = 10 then ((0, 0), q + 2) else sef w pl sm N nms N (q + 1) []
noncomputable def brS (w pl : Nat → Int) (sm : Nat → Nat → Prop) (N : Nat) (nms : List nm9) (b p q : Nat) : (Int × Int) × Nat := if b = 8 then ((5, pl p), 0) else bsf w pl sm N nms p q
section BRX
variable {G : mG} {d a g R W C T2 T3 Z2 N K : Nat} {M M2 M3 : mM} {E : Nat → Nat} {tg : Int} {nms : List nm9}
theorem RSq.st {i j : Nat} {v : Int} (rs : RSq M2 a g K nms) (L2 : Lc M2 a g N T2 K) (hv : i32 v) (hi : 22 ≤ i ∧ i ≤ 29) (f1 : frO (13 + i)) (f2 : frO (49 + i)) (e : M3 = mUI M2 (g + i) j v) : RSq M3 a g K nms := by
  obtain ⟨L3, I3, -, m3, f3, l3⟩ := gsti L2 hv (by omega) f1 f2 (fun z => by omega) e
  refine rs.eq ((lst3.of m3 (fun _ _ z => z)).q K) ?_ ⟨by rw [l3], by rw [l3]⟩ (I3.sx L2.2.1.1.1 L2.2.2.2.2.2.1)
  funext u
  unfold tn
  rw [show mI M3 (g + 18) = mI M2 (g + 18) from funext (fun x => by rw [f3, if_neg (fun z => by omega)]), show mI M3 (g + 14) = mI M2 (g + 14) from funext (fun x => by rw [f3, if_neg (fun z => by omega)])]
/-- a branch has been read, exactly -/
def brX (M : mM) (a g N K R W C : Nat) (E : Nat → Nat) (tg : Int) (s b : Nat) (nms : List nm9) (S : (Int × Int) × Nat) (x : Int) (M3 : mM) : Prop := brQ M a g N K R W C E tg s x M3 ∧ ((S.1.1 ≠ 0 ∧ fpw M3 a S.1) ∨ (S.1.1 = 0 ∧ S.2 = s ∧ mI M3 a 16 = 0 ∧ mI M3 (g + 25) C = (b : Int) + 1 ∧ RSq M3 a g K nms))
theorem x_br_end {b Z0 s k : Nat} {l8 : Int} {Q : Int → mM → Prop} (hC : C < 60) (hb : b < 8) (h : bI M a g N K R W C E tg b Z0 T2 Z2 M2) (hk : k ≤ N) (hs : mI M2 a 16 = 0 → k = s ∧ T2 ≤ s ∧ Z2 ≤ s) (hZ : Z2 ≤ 16385) (i8 : i32 l8) (h8 : l8 = 0 ∨ ¬ (mI M2 a 16 = 0)) (hQ : ∀ M4, i32 (k : Int) → mOk M4 → brQ M a g N K R W C E tg s k M4 → mI M4 a = mI M2 a → mI M4 (g + 25) C = (b : Int) + 1 → (RSq M2 a g K nms → RSq M4 a g K nms) → Q k M4) : h_MM_branch0_128 G (d + 8) a C b (8 * C + b : Nat) k l8 M2 Q := by
  have L2 := h.1.1
  have hN := L2.2.1.1.2.2
  have hg := L2.2.2.2.2.2.1
  have w2 := L2.2.1.1.1
  have z30 : mI M2 (g + 30) 1 = (Z2 : Int) := h.1.2.2.2.1.1
  have hZ0 := h.2.2.1
  have b480 : ((0 : Int) ≤ ((8 * C + b : Nat) : Int) ∧ ((8 * C + b : Nat) : Int) < ((480 : Nat) : Int)) := by omega
  have b60 : ((0 : Int) ≤ (C : Int) ∧ (C : Int) < ((60 : Nat) : Int)) := by omega
  refine k_MM_branch0_128 L2.1 (i32s (by omega) (by omega)) (i32s (by omega) (by omega)) (i32s (by omega) (by omega)) (i32s (by omega) (by omega)) i8 ⟨fun _ => w2.1.1, fun _ => ⟨w2.1.1, ?_⟩, fun q => absurd h8 q⟩
  rw [show mR M2 a 10 = g from L2.2.2.2.2.1, show mR M2 g 27 = g + 30 from (w2.gp hg).2.2.1.2.2.2.2.2.2.2.2.2.2.2.2.1, show mR M2 g 25 = g + 28 from (w2.gp hg).2.2.1.2.2.2.2.2.2.2.2.2.2.1, show mR M2 g 26 = g + 29 from (w2.gp hg).2.2.1.2.2.2.2.2.2.2.2.2.2.2.1, z30, Int.toNat_natCast, h.2.1]
  refine ⟨(w2.gp hg).1, (w2.nu (n30 hg)).1, (w2.gp hg).2.2.2.2.2.2.2.2.2.2.2.1.1, by rw [(w2.gp hg).2.2.2.2.2.2.2.2.2.2.2.1.2]; exact b480, (w2.gp hg).2.2.2.2.2.2.2.2.2.2.2.2.1, by rw [(w2.gp hg).2.2.2.2.2.2.2.2.2.2.2.2.2]; exact b480, i32s (by omega) (by omega), fun M3 e3 => ?_⟩
  obtain ⟨c3, f3, a3, G3⟩ := h.1.st (i := 29) (i32s (by omega) (by omega)) (by omega) (by omega) (by decide) (by decide) e3
  have L3 := c3.1
  have w3 := L3.2.1.1.1
  rw [show mR M3 a 10 = g from L3.2.2.2.2.1, show mR M3 g 22 = g + 25 from (w3.gp hg).2.2.1.2.2.2.2.2.2.2.1, Int.toNat_natCast]
  refine ⟨(w3.gp hg).1, (w3.gp hg).2.2.2.2.2.2.2.2.1.1, by rw [(w3.gp hg).2.2.2.2.2.2.2.2.1.2]; exact b60, i32s (by omega) (by omega), fun M4 e4 => ?_⟩
  have key := br_end (x := (k : Int)) hC hb h (by omega) (fun z => ⟨by have := hs z; omega, (hs z).2⟩) hZ e3 e4
  obtain ⟨c4, f4, a4, G4⟩ := c3.st (i := 25) (v := (b : Int) + 1) (i32s (by omega) (by omega)) (by omega) (by omega) (by decide) (by decide) e4
  exact hQ M4 (i32s (by omega) (by omega)) key.1 key.2 (a4.trans a3) (by rw [f4, if_pos ⟨rfl, rfl⟩]) (fun rs => (rs.st (i := 29) L2 (i32s (by omega) (by omega)) (by omega) (by decide) (by decide) e3).st (i := 25) L3 (i32s (by omega) (by omega)) (by omega) (by decide) (by decide) e4)
theorem x_br_sets {b Z0 s : Nat} (wM : Wd M a) (hC : C < 60) (hb : b < 8) (hsN : s < N) (hg : g = a + 13 ∨ g = a + 49) : ∀ (f f' p T2 Z2 : Nat) (M2 : mM) (seen : List Nat), s ≤ p + f' → bI M a g N K R W C E tg b Z0 T2 Z2 M2 → RSq M2 a g K nms → SNq M2 a g K nms Z0 Z2 seen → mI M2 a 16 = 0 → Se (wk M a) f p s → T2 ≤ p → Z2 ≤ p → h_MM_branch0_128 G (d + 8) a C b (8 * C + b : Nat) p 1 M2 (fun x M3 => i32 x ∧ mOk M3 ∧ brX M a g N K R W C E tg s b nms (sef (wk M a) (nt M (a + 7)) (smx M a) N nms f' p seen) x M3) := by
  intro f
  induction f with
  | zero => intro f' p T2 Z2 M2 seen _ _ _ _ _ hs; exact hs.elim
  | succ f ih =>
    intro f' p T2 Z2 M2 seen hf' h rs sn z2 hse hT2 hZ2
    have sgs := hse.sg.1
    obtain ⟨w0, w1, w2', w3, c, he, w4, hnx⟩ := hse
    have L2 := h.1.1
    have hN := L2.2.1.1.2.2
    have w2 := L2.2.1.1.1
    have hlt := he.pr.1
    have hcs : c + 1 ≤ s := by
      rcases hnx with ⟨y, -⟩ | ⟨-, y⟩
      · omega
      · have := y.sg.1; omega
    have wkE := h.1.2.1.wk hg
    have b480 : ((0 : Int) ≤ ((8 * C + b : Nat) : Int) ∧ ((8 * C + b : Nat) : Int) < ((480 : Nat) : Int)) := by omega
    have cN : c < N := by omega
    have c1N : c + 1 < N := by omega
    have tm : c - (p + 4) ≤ c - (p + 4) := Nat.le_refl _
    have hZ16 : Z2 ≤ 16384 := by omega
    have hZ0 := h.2.2.1
    obtain ⟨f', rfl⟩ : ∃ f2, f' = f2 + 1 := ⟨f' - 1, by omega⟩
    have eS := sef_s (pl := nt M (a + 7)) (sm := smx M a) (nms := nms) (seen := seen) (f := f') (cpq_at he w4 cN)
    generalize sef (wk M a) (nt M (a + 7)) (smx M a) N nms (f' + 1) p seen = S at eS ⊢
    refine k_MM_branch0_128 L2.1 (i32s (by omega) (by omega)) (i32s (by omega) (by omega)) (i32s (by omega) (by omega)) (i32s (by omega) (by omega)) ⟨by decide, by decide⟩ ⟨fun _ => w2.1.1, fun q => ?_, fun _ => ⟨w2.1.1, ?_⟩⟩
    · rcases q with q | q
      · exact absurd q (by decide)
      · exact absurd z2 q
    rw [show mR M2 a 10 = g from L2.2.2.2.2.1, show mR M2 g 25 = g + 28 from (w2.gp hg).2.2.1.2.2.2.2.2.2.2.2.2.2.1, Int.toNat_natCast, h.2.1]
    refine ⟨(w2.gp hg).1, (w2.gp hg).2.2.2.2.2.2.2.2.2.2.2.1.1, by rw [(w2.gp hg).2.2.2.2.2.2.2.2.2.2.2.1.2]; exact b480, ?_⟩
    refine (x_MM_setItem (d := d) wM h.1 rs sn z2 w0 w1 w2' w3 he w4 cN hT2 hZ16 hZ0 tm).mono (fun x M3 t3 => ?_)
    obtain ⟨ix, o3, ⟨hx, m3, T3, Z3, c3, ⟨t1, t2, t3', t4⟩, k3⟩, sx⟩ := t3
    have B3 := h.si (c := c) (Tm := 0) z2 m3 c3 t1 t3' (fun z => (k3 z).2) hb
    have L3 := c3.1
    have w3 := L3.2.1.1.1
    have wkE3 := c3.2.1.wk hg
    have hT3 : T3 ≤ c + 1 := by omega
    have hZ3 : Z3 ≤ c + 1 := by omega
    refine ⟨ix, o3, w3.1.1, ?_⟩
    obtain ⟨y, hy, hyN⟩ : ∃ y : Nat, x = (y : Int) ∧ y + 1 ≤ N := by
      rcases hx with z | z
      · exact ⟨c, z, by omega⟩
      · exact ⟨c + 1, z, by omega⟩
    have k3' : mI M3 a 16 = 0 → y = c + 1 := fun z => by have := (k3 z).1; omega
    clear hx k3 t1 t2 t3' t4 sgs
    subst hy
    refine L3.wd (d := d + 7) (by omega) (fun u hu iu => ⟨iu, L3.1, fun v hv v' hv' => ?_⟩)
    rw [wkE3] at hu
    by_cases z3 : mI M3 a 16 = 0
    · have ey := k3' z3
      subst ey
      obtain ⟨u1, -, u3, u4, e, u5, u6⟩ : (stf (wk M a) (nt M (a + 7)) (smx M a) nms p c seen).1 = 0 ∧ mI M3 a 16 = 0 ∧ RSq M3 a g K nms ∧ ln M3 (g + 30) = (Z2 + 1 : Nat) ∧ ∃ e, fnd9 (smx M a) nms (p + 1) = some e ∧ SNq M3 a g K nms Z0 (Z2 + 1) (e.1 :: seen) := by
        rcases sx with ⟨y1, y2⟩ | y
        · exact absurd (y2.1.symm.trans z3) y1
        · exact y
      have eZ : Z3 = Z2 + 1 := by have := c3.2.2.2.1.1; omega
      rw [if_neg (fun z => z u1), u5] at eS
      simp only [] at eS
      rcases hnx with ⟨e1, e2⟩ | ⟨e1, e2⟩
      · rw [if_neg (fun q => e2 (hu.symm.trans q))] at hv
        subst hv
        rw [if_pos rfl] at hv'
        subst hv'
        rw [if_neg e2] at eS
        refine x_br_end (nms := nms) hC hb B3 (by omega) (fun _ => by omega) (by omega) ⟨by decide, by decide⟩ (Or.inl rfl) (fun M4 i4 o4 bq aI r25 rsq => ⟨i4, o4, bq, Or.inr ⟨by rw [eS], by rw [eS]; exact e1.symm, by rw [aI]; exact z3, r25, rsq u3⟩⟩)
      · rw [if_pos (hu.trans e1)] at hv
        subst hv
        rw [if_neg (by decide)] at hv'
        subst hv'
        rw [show ((c + 1 : Nat) : Int) + 1 = ((c + 2 : Nat) : Int) by omega]
        rw [if_pos e1] at eS
        rw [eS]
        exact ih f' (c + 2) T3 Z3 M3 (e.1 :: seen) (by omega) B3 u3 (by rw [eZ]; exact u6) z3 e2 (by omega) (by omega)
    · have v01 : v = 0 ∨ v = 1 := by split at hv <;> omega
      obtain ⟨u1, u2⟩ : (stf (wk M a) (nt M (a + 7)) (smx M a) nms p c seen).1 ≠ 0 ∧ fpw M3 a (stf (wk M a) (nt M (a + 7)) (smx M a) nms p c seen) := by
        rcases sx with y | y
        · exact y
        · exact absurd y.2.1 z3
      rw [if_pos u1] at eS
      obtain ⟨k', hk', hkN⟩ : ∃ k' : Nat, v' = (k' : Int) ∧ k' ≤ N := by
        by_cases q : v = 0
        · rw [if_pos q] at hv'; exact ⟨y, hv', by omega⟩
        · rw [if_neg q] at hv'; exact ⟨y + 1, by omega, by omega⟩
      subst hk'
      refine x_br_end (nms := nms) hC hb B3 hkN (fun q => absurd q z3) (by omega) (i32s (by omega) (by omega)) (Or.inr z3) (fun M4 i4 o4 bq aI r25 rsq => ⟨i4, o4, bq, Or.inl ?_⟩)
      rw [eS]
      exact ⟨u1, by rw [aI]; exact u2.1, by rw [aI]; exact u2.2⟩
theorem x_MM_branch0 {p q s e b : Nat} (wM : Wd M a) (h : cI M a g N K R W C E tg T2 Z2 M2) (rs : RSq M2 a g K nms) (z2 : mI M2 a 16 = 0) (hcc : Cc M2 g R W T2 E Z2 C) (hb : mI M2 (g + 25) C = (b : Int)) (hC : C < 60) (he5 : Eo (wk M a) 5 p q) (w33 : wk M a q = 33) (hss : Ss (wk M a) (q + 1) s) (hsN : s < N) (heN : e < N) (hT2 : T2 ≤ p) (hZ2 : Z2 ≤ p) : Ci G y_MM_branch0 (d + 9) [vr a, vi C, vi p, vi e] M2 (fun x M3 => i32 x ∧ mOk M3 ∧ brX M a g N K R W C E tg s b nms (brS (wk M a) (nt M (a + 7)) (smx M a) N nms b p q) x M3) := by
  have L2 := h.1
  have hN := L2.2.1.1.2.2
  have hg := L2.2.2.2.2.2.1
  have w2 := L2.2.1.1.1
  have hlt := he5.pr.1
  have hqs := hss.sg.1
  have wkE := h.2.1.wk hg
  have sx2 := h.2.1.sx wM hg
  have hb8 : b ≤ 8 := by have := hcc.2.2.1; omega
  have b60 : ((0 : Int) ≤ (C : Int) ∧ (C : Int) < ((60 : Nat) : Int)) := by omega
  have ie : i32 (e : Int) := i32s (by omega) (by omega)
  have pN : p < N := by omega
  have qN : q < N := by omega
  have q1N : q + 1 < N := by
    rcases hss with ⟨-, y⟩ | ⟨-, f, y⟩
    · omega
    · cases f with
      | zero => exact y.elim
      | succ f =>
        obtain ⟨-, -, -, -, c, y1, -, y2⟩ := y
        have := y1.pr.1
        rcases y2 with ⟨y2, -⟩ | ⟨-, y2⟩
        · omega
        · have := y2.sg.1; omega
  refine k_MM_branch0 L2.1 (i32s (by omega) (by omega)) (i32s (by omega) (by omega)) ie ?_
  rw [show mR M2 a 10 = g from L2.2.2.2.2.1, show mR M2 g 22 = g + 25 from (w2.gp hg).2.2.1.2.2.2.2.2.2.2.1, Int.toNat_natCast, hb]
  refine ⟨w2.1.1, (w2.gp hg).1, (w2.gp hg).2.2.2.2.2.2.2.2.1.1, by rw [(w2.gp hg).2.2.2.2.2.2.2.2.1.2]; exact b60, fun q8 => ?_, fun q8 => ?_⟩
  · refine (s_MM_place0 (d := d + 7) L2.1 L2.2.1 pN).mono (fun y M5 h5 => ?_)
    obtain ⟨e5, hy⟩ := h5
    subst e5
    have hy32 : i32 y := by rw [hy]; exact (L2.1 _ _).1
    refine ⟨hy32, L2.1, w2.1.1, (s_MM_stop ⟨by decide, by decide⟩ hy32 L2.1 w2).mono (fun M6 h6 => ⟨h6.1.1, ie, h6.1.1, ⟨by omega, ?_⟩, Or.inl ?_⟩)⟩
    rotate_left
    · have b8 : b = 8 := by omega
      unfold brS
      rw [if_pos b8]
      exact ⟨by simp, h6.2.1, by rw [h6.2.2.1, hy, sx2.2.1]⟩
    obtain ⟨-, -, T3, Z3, c3, -, -⟩ := si_stop (c := 0) (Tm := 0) h (by decide) h6
    exact ⟨T3, Z3, c3, fun z => by rw [h6.2.1] at z; exact absurd z (by decide)⟩
  · have hb7 : b < 8 := by omega
    have eB : brS (wk M a) (nt M (a + 7)) (smx M a) N nms b p q = bsf (wk M a) (nt M (a + 7)) (smx M a) N nms p q := if_neg (by omega)
    rw [eB]
    have eS : bsf (wk M a) (nt M (a + 7)) (smx M a) N nms p q = if (rf9 (wk M a) (nt M (a + 7)) (smx M a) nms 0 0 p q).1 ≠ 0 then (rf9 (wk M a) (nt M (a + 7)) (smx M a) nms 0 0 p q, 0) else if wk M a (q + 1) = 10 then ((0, 0), q + 2) else sef (wk M a) (nt M (a + 7)) (smx M a) N nms N (q + 1) [] := rfl
    generalize bsf (wk M a) (nt M (a + 7)) (smx M a) N nms p q = S at eS ⊢
    have e8 : 8 * (C : Int) + (b : Int) = ((8 * C + b : Nat) : Int) := by omega
    have b480 : ((0 : Int) ≤ ((8 * C + b : Nat) : Int) ∧ ((8 * C + b : Nat) : Int) < ((480 : Nat) : Int)) := by omega
    rw [e8]
    refine L2.ub (d := d + 6) (by omega) (by rw [wkE]; exact he5.pr.2.2.2.2.1) qN (by rw [wkE]; exact w33) (Or.inr (Or.inr rfl)) ⟨i32s (by omega) (by omega), L2.1, w2.1.1, ?_⟩
    rw [show mR M2 a 10 = g from L2.2.2.2.2.1, show mR M2 g 23 = g + 26 from (w2.gp hg).2.2.1.2.2.2.2.2.2.2.2.1]
    refine ⟨(w2.gp hg).1, (x_crule (d := d + 1) h rs z2 wM (Or.inl rfl) (by omega) (he5.six (by omega)) qN).mono (fun x M3 q3 => ?_)⟩
    obtain ⟨ex, T3, t1, t2, Rl, qx⟩ := q3
    generalize rf9 (wk M a) (nt M (a + 7)) (smx M a) nms 0 0 p q = F at eS qx
    subst ex
    have iT : i32 (T2 : Int) := i32s (by omega) (by omega)
    have hZ16 : Z2 ≤ 16385 := by omega
    have hT16 : T2 ≤ 16385 := by omega
    have hTs : T3 ≤ q := by omega
    have hZs : Z2 ≤ q := by omega
    have iq2 : i32 ((q : Int) + 1 + 1) := i32s (by omega) (by omega)
    have hqi : 0 ≤ (q : Int) + 1 + 1 ∧ (q : Int) + 1 + 1 ≤ N := by omega
    have ib1 : i32 ((b : Int) + 1) := i32s (by omega) (by omega)
    have b60' := b60
    have t1' := Nat.le_of_lt t1
    have iZ0 : i32 ((Z2 : Int) - Z2) := i32s (by omega) (by omega)
    obtain ⟨c3, -⟩ := h.rl z2 t1' Rl
    have L3 := c3.1
    have w3 := L3.2.1.1.1
    clear hqs hlt t2 t1 hN
    refine ⟨iT, L3.1, (w3.gp hg).2.2.2.2.2.2.2.2.2.1.1, by rw [(w3.gp hg).2.2.2.2.2.2.2.2.2.1.2]; exact b480, fun M4 e4 => ?_⟩
    rw [Int.toNat_natCast] at e4
    have P := fun (M5 M6 : mM) (pl : Int) (ip : i32 pl) e5 e6 => br_put (M5 := M5) (M6 := M6) h z2 hcc hb hb7 hZ16 hT16 t1' ip Rl e4 e5 e6
    have c4 := (P _ _ 0 ⟨by decide, by decide⟩ rfl rfl).2.1.1
    have L4 := c4.1
    have w4 := L4.2.1.1.1
    rw [show mR M4 a 10 = g from L4.2.2.2.2.1, show mR M4 g 24 = g + 27 from (w4.gp hg).2.2.1.2.2.2.2.2.2.2.2.2.1]
    refine ⟨w4.1.1, (w4.gp hg).1, (s_MM_place0 (d := d + 7) L4.1 L4.2.1 pN).mono (fun y M5 h5 => ?_)⟩
    obtain ⟨e5, hy⟩ := h5
    subst e5
    have hy32 : i32 y := by rw [hy]; exact (L4.1 _ _).1
    refine ⟨hy32, L4.1, (w4.gp hg).2.2.2.2.2.2.2.2.2.2.1.1, by rw [(w4.gp hg).2.2.2.2.2.2.2.2.2.2.1.2]; exact b480, fun M6 e6 => ?_⟩
    rw [Int.toNat_natCast] at e6
    have c6 := (P M6 _ y hy32 e6 rfl).2.1.2
    have L6 := c6.1
    have w6 := L6.2.1.1.1
    have z30 : mI M6 (g + 30) 1 = (Z2 : Int) := c6.2.2.2.1.1
    rw [show mR M6 a 10 = g from L6.2.2.2.2.1, show mR M6 g 27 = g + 30 from (w6.gp hg).2.2.1.2.2.2.2.2.2.2.2.2.2.2.2.1, show mR M6 g 25 = g + 28 from (w6.gp hg).2.2.1.2.2.2.2.2.2.2.2.2.2.1, z30]
    refine ⟨w6.1.1, (w6.gp hg).1, (w6.nu (n30 hg)).1, (w6.gp hg).2.2.2.2.2.2.2.2.2.2.2.1.1, by rw [(w6.gp hg).2.2.2.2.2.2.2.2.2.2.2.1.2]; exact b480, fun M7 e7 => ?_⟩
    rw [Int.toNat_natCast] at e7
    obtain ⟨B7, -, a7⟩ := P M6 M7 y hy32 e6 e7
    have rs7 : RSq M3 a g K nms → RSq M7 a g K nms := fun r3 => ((r3.st (i := 26) L3 iT (by omega) (by decide) (by decide) e4).st (i := 27) L4 hy32 (by omega) (by decide) (by decide) e6).st (i := 28) L6 (i32s (by omega) (by omega)) (by omega) (by decide) (by decide) e7
    have L7 := B7.1.1
    have w7 := L7.2.1.1.1
    have wkE7 := B7.1.2.1.wk hg
    rw [show (q : Int) + 1 = ((q + 1 : Nat) : Int) by omega]
    refine L7.wd (d := d + 7) q1N (fun u hu iu => ⟨iu, L7.1, fun q10 => ⟨w7.1.1, ?_⟩, fun q10 => ?_⟩)
    · rw [wkE7] at hu
      have es : s = q + 2 := by
        rcases hss with ⟨-, y⟩ | ⟨y, -⟩
        · omega
        · exact absurd (hu.symm.trans q10) y
      have z30' : mI M7 (g + 30) 1 = (Z2 : Int) := B7.1.2.2.2.1.1
      rw [show mR M7 a 10 = g from L7.2.2.2.2.1, show mR M7 g 27 = g + 30 from (w7.gp hg).2.2.1.2.2.2.2.2.2.2.2.2.2.2.2.1, show mR M7 g 25 = g + 28 from (w7.gp hg).2.2.1.2.2.2.2.2.2.2.2.2.2.1, show mR M7 g 26 = g + 29 from (w7.gp hg).2.2.1.2.2.2.2.2.2.2.2.2.2.2.1, z30', Int.toNat_natCast, B7.2.1]
      refine ⟨(w7.gp hg).1, (w7.nu (n30 hg)).1, (w7.gp hg).2.2.2.2.2.2.2.2.2.2.2.1.1, by rw [(w7.gp hg).2.2.2.2.2.2.2.2.2.2.2.1.2]; exact b480, (w7.gp hg).2.2.2.2.2.2.2.2.2.2.2.2.1, by rw [(w7.gp hg).2.2.2.2.2.2.2.2.2.2.2.2.2]; exact b480, iZ0, fun M8 e8 => ?_⟩
      obtain ⟨c8, f8, a8, G8⟩ := B7.1.st (i := 29) iZ0 (by omega) (by omega) (by decide) (by decide) e8
      have L8 := c8.1
      have w8 := L8.2.1.1.1
      rw [show mR M8 a 10 = g from L8.2.2.2.2.1, show mR M8 g 22 = g + 25 from (w8.gp hg).2.2.1.2.2.2.2.2.2.2.1]
      refine ⟨(w8.gp hg).1, (w8.gp hg).2.2.2.2.2.2.2.2.1.1, by rw [(w8.gp hg).2.2.2.2.2.2.2.2.1.2]; exact b60', ib1, fun M9 e9 => ?_⟩
      rw [show ((q + 1 : Nat) : Int) + 1 = (q : Int) + 1 + 1 by omega]
      have key := br_end (x := (q : Int) + 1 + 1) (s := s) hC hb7 B7 hqi (fun _ => by omega) hZ16 e8 e9
      obtain ⟨c9, f9, a9, G9⟩ := c8.st (i := 25) ib1 (by omega) (by omega) (by decide) (by decide) e9
      have aI : mI M9 a = mI M3 a := by rw [a9, a8, a7]
      refine ⟨iq2, key.1, key.2, ?_⟩
      rcases qx with ⟨u1, u2⟩ | ⟨u1, u2, u3⟩
      · rw [if_pos u1] at eS
        rw [eS]
        exact Or.inl ⟨u1, by rw [aI]; exact u2.1, by rw [aI]; exact u2.2⟩
      · rw [if_neg (fun z => z u1), if_pos (hu.symm.trans q10)] at eS
        rw [eS]
        exact Or.inr ⟨rfl, es.symm, by rw [aI]; exact u2, by rw [f9, if_pos ⟨rfl, rfl⟩], ((rs7 u3).st (i := 29) L7 iZ0 (by omega) (by decide) (by decide) e8).st (i := 25) L8 ib1 (by omega) (by decide) (by decide) e9⟩
    · rw [wkE7] at hu
      obtain ⟨f, se⟩ : ∃ f, Se (wk M a) f (q + 1) s := by
        rcases hss with ⟨y, -⟩ | ⟨-, y⟩
        · exact absurd (hu.trans y) q10
        · exact y
      have n10 : ¬ wk M a (q + 1) = 10 := fun z => q10 (hu.trans z)
      by_cases z7 : mI M7 a 16 = 0
      · rcases qx with ⟨u1, u2⟩ | ⟨u1, u2, u3⟩
        · rw [a7, u2.1] at z7; exact absurd z7 u1
        · rw [if_neg (fun z => z u1), if_neg n10] at eS
          rw [eS]
          exact x_br_sets wM hC hb7 hsN hg f N (q + 1) T3 Z2 M7 [] (by omega) B7 (rs7 u3) SNq.nil z7 se (by omega) (by omega)
      · rcases qx with ⟨u1, u2⟩ | ⟨u1, u2, u3⟩
        · rw [if_pos u1] at eS
          refine x_br_end (nms := nms) hC hb7 B7 (by omega) (fun y => absurd y z7) hZ16 ⟨by decide, by decide⟩ (Or.inr z7) (fun M9 i9 o9 bq aI r25 rsq => ⟨i9, o9, bq, Or.inl ?_⟩)
          rw [eS]
          exact ⟨u1, by rw [aI, a7]; exact u2.1, by rw [aI, a7]; exact u2.2⟩
        · rw [a7] at z7; exact absurd u2 z7
end BRX
end
section
/-! The reference's commands, exactly. -/
section CXP
variable {w pl : Nat → Int} {sm : Nat → Nat → Prop} {N k e j p q b f mc : Nat} {nms : List nm9} {s : st9}
theorem brf_s (hq : clq w (p - 1) N = q) (hpe : ¬ e ≤ p) : brf w pl sm N nms e (f + 1) p b = if (brS w pl sm N nms b p q).1.1 ≠ 0 then (brS w pl sm N nms b p q).1 else brf w pl sm N nms e f ((brS w pl sm N nms b p q).2 + 1) (b + 1) := by
  rw [brf, if_neg hpe, hq]
  unfold brS
  by_cases c : b = 8
  · rw [if_pos c, if_pos c, if_pos (by simp)]
  · rw [if_neg c, if_neg c]
    unfold bsf
    by_cases c1 : (rf9 w pl sm nms 0 0 p q).1 ≠ 0
    · rw [if_pos c1, if_pos c1, if_pos c1]
    · rw [if_neg c1, if_neg c1]
      by_cases c2 : w (q + 1) = 10
      · rw [if_pos c2, if_pos c2, if_neg (by simp)]
      · rw [if_neg c2, if_neg c2]
theorem brf_e (hpe : e ≤ p) : brf w pl sm N nms e f p b = (0, 0) := by
  cases f with
  | zero => rfl
  | succ f => rw [brf, if_pos hpe]
theorem itc_many (h : s.2.1.2.2.1 = mc) : (itc w pl sm N mc k e s).2.2 = (5, pl k) := by
  unfold itc
  simp only []
  rw [if_pos h]
theorem itc_f (h : s.2.1.2.2.1 ≠ mc) (hr : nxq w 17 N (k + 1) = j) (h3 : (fst9 (rf9 w pl sm s.1 0 1 (k + 1) j) (brf w pl sm N s.1 e N (j + 1) 0)).1 ≠ 0) : (itc w pl sm N mc k e s).2.2 = fst9 (rf9 w pl sm s.1 0 1 (k + 1) j) (brf w pl sm N s.1 e N (j + 1) 0) := by
  unfold itc
  simp only [hr]
  rw [if_neg h, if_pos h3]
theorem itc_ok (h : s.2.1.2.2.1 ≠ mc) (hr : nxq w 17 N (k + 1) = j) (h3 : (fst9 (rf9 w pl sm s.1 0 1 (k + 1) j) (brf w pl sm N s.1 e N (j + 1) 0)).1 = 0) : itc w pl sm N mc k e s = (s.1, (s.2.1.1, s.2.1.2.1, s.2.1.2.2.1 + 1, s.2.1.2.2.2), (0, 0)) := by
  unfold itc
  simp only [hr]
  rw [if_neg h, if_neg (fun z => z h3)]
end CXP
section CXA
variable {G : mG} {d a g R W C T Z T2 Z2 N K : Nat} {M M2 M3 : mM} {E : Nat → Nat} {tg : Int} {s s' : st9}
/-- a cell of the game's own is set: the names stay -/
theorem RSq.own {i : Nat} {v : Int} {nms : List nm9} (rs : RSq M2 a g K nms) (L2 : Lc M2 a g N T2 K) (hv : i32 v) (e : M3 = mUI M2 g i v) : RSq M3 a g K nms := by
  have hg := L2.2.2.2.2.2.1
  have w2 := L2.2.1.1.1
  have a0 := goff0 hg
  obtain ⟨m1, f1, l1⟩ := mv_cell hv L2.1 w2 (show a ≤ g by omega) ⟨a0.1, a0.2.1, a0.2.2.1⟩ e
  have no : ∀ q : Nat, False → q ∈ nums a := fun _ z => z.elim
  have aI1 := (m1.fld w2 no (by omega)).1
  have sx1 : SXq M2 a M3 := (iF.mk (g := g) w2 m1 (fun _ z => z.elim) (fun x z => Or.inr (Or.inl (by omega))) (fun i _ _ _ => by rw [aI1])).sx w2 hg
  refine rs.eq ((lst3.of m1 (fun _ _ z => z)).q K) ?_ ⟨by rw [l1], by rw [l1]⟩ sx1
  funext u
  unfold tn
  rw [show mI M3 (g + 18) = mI M2 (g + 18) from funext (fun x => by rw [f1, if_neg (fun z => by omega)]), show mI M3 (g + 14) = mI M2 (g + 14) from funext (fun x => by rw [f1, if_neg (fun z => by omega)])]
theorem x_ci_end0 {e : Nat} (h0 : Df M a g N T K R W C Z E tg) (hC : C < 60) (h : cI M a g N K R W C E tg T2 Z2 M2) (hc : mI M2 a 16 = 0 → Cc M2 g R W T2 E Z2 C ∧ T2 ≤ e ∧ Z2 ≤ e) (rs : mI M2 a 16 = 0 → RSq M2 a g K s.1) (flt : mI M2 a 16 ≠ 0 → s'.2.2.1 ≠ 0 ∧ fpw M2 a s'.2.2) (good : mI M2 a 16 = 0 → s' = (s.1, (W, R, C + 1, if tg = -1 then 0 else 1), (0, 0))) (e3 : M3 = mUI M2 g 18 ((C : Int) + 1)) : mOk M3 ∧ itX M a g N e s' M3 := by
  obtain ⟨hL, ⟨g6, g12, g18, g17⟩, -, hK, hD⟩ := h0
  obtain ⟨L2, I2, ⟨g2, q6, q12⟩, ⟨z30, z32, z34⟩, D2⟩ := h
  have hg := L2.2.2.2.2.2.1
  have hB := L2.2.2.2.2.2.2.1
  have w2 := L2.2.1.1.1
  have a0 := goff0 hg
  obtain ⟨m1, f1, l1⟩ := mv_cell (v := (C : Int) + 1) (i32s (by omega) (by omega)) L2.1 w2 (show a ≤ g by omega) ⟨a0.1, a0.2.1, a0.2.2.1⟩ e3
  have no : ∀ q : Nat, False → q ∈ nums a := fun _ z => z.elim
  have aI1 := (m1.fld w2 no (by omega)).1
  have n18 : ∀ i, i ≠ 18 → mI M3 g i = mI M2 g i := fun i hi => by rw [f1, if_neg (fun z => hi z.2)]
  have x18 : mI M3 g 18 = (C : Int) + 1 := by rw [f1, if_pos ⟨rfl, rfl⟩]
  have L3 : Lc M3 a g N T2 K := L2.mv m1 no (fun _ z => z.elim) (by rw [n18 6 (by omega)]; omega) (by rw [n18 12 (by omega)]; omega) (by rw [n18 6 (by omega), n18 12 (by omega)]; omega) (fun r _ => by rw [f1, if_neg (fun z => by omega)])
  have ss : ∀ {q}, q ∈ nums a → sameN M2 M3 q := fun hq => m1.lst hq (fun z => z)
  refine ⟨m1.1, I2.trans (iF.mk w2 m1 (fun _ z => z.elim) (fun x z => Or.inr (Or.inl (by omega))) (fun i _ _ _ => by rw [aI1])), ?_⟩
  by_cases z : mI M3 a 16 = 0
  · have z2 : mI M2 a 16 = 0 := by rw [← aI1]; exact z
    obtain ⟨c1, c2, c3⟩ := hc z2
    have G3 : Ge M2 g R W (C + 1) Z2 T2 M3 := ge_mv w2 hg m1 no (fun z => z) (fun z => z) (fun i i1 i2 (z : g + i = g) => by omega) (fun n _ => ⟨(ss (tL_in (q := g + 1) hg (by omega))).2.1 n, (ss (tL_in (q := g + 7) hg (by omega))).2.1 n, (ss (tL_in (q := g + 9) hg (by omega))).2.1 n, (ss (tL_in (q := g + 11) hg (by omega))).2.1 n⟩)
    have u1 := good z2
    exact Or.inr ⟨by rw [u1], z, T2, K, R, W, C + 1, Z2, E, tg, ⟨L3, ⟨by rw [n18 6 (by omega)]; exact q6, by rw [n18 12 (by omega)]; exact q12, by rw [x18]; omega, by rw [n18 17 (by omega), g2]; exact g17⟩, ⟨by rw [(ss (n30 hg)).1]; exact z30, by rw [(ss (n32 hg)).1]; exact z32, by rw [(ss (n34 hg)).1]; exact z34⟩, hK, ((D2 z2).cu hC c1).ge G3⟩, ⟨c2, c3⟩, by rw [u1]; exact (rs z2).own L2 (i32s (by omega) (by omega)) e3, by rw [u1]⟩
  · obtain ⟨u1, u2⟩ := flt (by rw [← aI1]; exact z)
    exact Or.inl ⟨u1, by rw [aI1]; exact u2.1, by rw [aI1]; exact u2.2⟩
theorem x_ci_end {e : Nat} {p : Int} (h0 : Df M a g N T K R W C Z E tg) (hC : C < 60) (h : cI M a g N K R W C E tg T2 Z2 M2) (heN : e < N) (hc : mI M2 a 16 = 0 → Cc M2 g R W T2 E Z2 C ∧ T2 ≤ e + 1 ∧ Z2 ≤ e + 1) (rs : mI M2 a 16 = 0 → RSq M2 a g K s.1) (flt : mI M2 a 16 ≠ 0 → s'.2.2.1 ≠ 0 ∧ fpw M2 a s'.2.2) (good : mI M2 a 16 = 0 → s' = (s.1, (W, R, C + 1, if tg = -1 then 0 else 1), (0, 0))) (ip : i32 p) (hp : ¬ (mI M2 a 16 = 0) ∨ (e : Int) ≤ p) : h_MM_commandItem_116 G (d + 9) a e C p M2 (fun M' => mOk M' ∧ itX M a g N (e + 1) s' M') := by
  have L2 := h.1
  have hN := L2.2.1.1.2.2
  have hg := L2.2.2.2.2.2.1
  have w2 := L2.2.1.1.1
  refine k_MM_commandItem_116 L2.1 (i32s (by omega) (by omega)) (i32s (by omega) (by omega)) ip ⟨w2.1.1, fun _ => ?_, fun q => absurd hp q⟩
  rw [show mR M2 a 10 = g from L2.2.2.2.2.1]
  exact ⟨(w2.gp hg).1, i32s (by omega) (by omega), fun M3 e3 => x_ci_end0 h0 hC h hc rs flt good e3⟩
theorem x_ci_run {e : Nat} (h0 : Df M a g N T K R W C Z E tg) (hC : C < 60) (heN : e < N) (hg : g = a + 13 ∨ g = a + 49) : ∀ (f f' p b T2 Z2 : Nat) (M2 : mM), 1 ≤ p → e < p + f' → cI M a g N K R W C E tg T2 Z2 M2 → RSq M2 a g K s.1 → mI M2 a 16 = 0 → Cc M2 g R W T2 E Z2 C → mI M2 (g + 25) C = (b : Int) → Br (wk M a) f p e → T2 ≤ p → Z2 ≤ p → ((brf (wk M a) (nt M (a + 7)) (smx M a) N s.1 e f' p b).1 ≠ 0 → s'.2.2 = brf (wk M a) (nt M (a + 7)) (smx M a) N s.1 e f' p b) → ((brf (wk M a) (nt M (a + 7)) (smx M a) N s.1 e f' p b).1 = 0 → s' = (s.1, (W, R, C + 1, if tg = -1 then 0 else 1), (0, 0))) → h_MM_commandItem_116 G (d + 9) a e C p M2 (fun M' => mOk M' ∧ itX M a g N (e + 1) s' M') := by
  have wM := h0.1.2.1.1.1
  intro f
  induction f with
  | zero => intro f' p b T2 Z2 M2 _ _ _ _ _ _ _ hb; exact hb.elim
  | succ f ih =>
    intro f' p b T2 Z2 M2 hp1 hf' h rs z2 hcc hb hbr hT hZ fr gd
    have L2 := h.1
    have hN := L2.2.1.1.2.2
    have w2 := L2.2.1.1.1
    obtain ⟨q, s9, h1, h2, h3, h4⟩ := hbr
    have p1 := h1.pr.1
    have p3 := h3.sg.1
    have hse : s9 ≤ e := by
      rcases h4 with ⟨y, -⟩ | ⟨-, y⟩
      · omega
      · have := y.sg.1; omega
    obtain ⟨f', rfl⟩ : ∃ f2, f' = f2 + 1 := ⟨f' - 1, by omega⟩
    have eq : clq (wk M a) (p - 1) N = q := clq_eo (by rw [show p - 1 + 1 = p by omega]; exact h1.six (by omega)) h2 (by omega)
    rw [brf_s eq (by omega)] at fr gd
    refine k_MM_commandItem_116 L2.1 (i32s (by omega) (by omega)) (i32s (by omega) (by omega)) (i32s (by omega) (by omega)) ⟨w2.1.1, fun q => ?_, fun _ => ?_⟩
    · rcases q with q | q
      · exact absurd z2 q
      · omega
    refine (x_MM_branch0 (d := d) wM h rs z2 hcc hb hC h1 h2 h3 (by omega) heN hT hZ).mono (fun x M3 t3 => ?_)
    obtain ⟨ix, o3, ⟨hx, T3, Z3, c3, k3⟩, sx⟩ := t3
    refine ⟨ix, o3, ?_⟩
    generalize brS (wk M a) (nt M (a + 7)) (smx M a) N s.1 b p q = S at fr gd sx
    rcases sx with ⟨u1, u2⟩ | ⟨u1, u2, u3, u4, u5⟩
    · have z3 : mI M3 a 16 ≠ 0 := by rw [u2.1]; exact u1
      rw [if_pos u1] at fr
      have fr := fr u1
      exact x_ci_end (s := s) h0 hC c3 heN (fun y => absurd y z3) (fun y => absurd y z3) (fun _ => by rw [fr]; exact ⟨u1, u2⟩) (fun y => absurd y z3) (i32s (by omega) (by omega)) (Or.inl z3)
    · obtain ⟨ex, t1, t2, cc⟩ := k3 u3
      subst ex
      rw [if_neg (fun z => z u1), u2] at fr gd
      rw [show (s9 : Int) + 1 = ((s9 + 1 : Nat) : Int) by omega]
      rcases h4 with ⟨y, -⟩ | ⟨-, y⟩
      · exact x_ci_end h0 hC c3 heN (fun _ => ⟨cc, by omega, by omega⟩) (fun _ => u5) (fun z => absurd u3 z) (fun _ => gd (by rw [brf_e (by omega)])) (i32s (by omega) (by omega)) (Or.inr (by omega))
      · exact ih f' (s9 + 1) (b + 1) T3 Z3 M3 (by omega) (by omega) c3 u5 u3 cc (by rw [u4]; omega) y (by omega) (by omega) fr gd
theorem x_MM_commandItem {k e j f : Nat} (h : Df M a g N T K R W C Z E tg) (hS : RSq M a g K s.1) (hst : s.2.1 = (W, R, C, if tg = -1 then 0 else 1)) (h16 : mI M a 16 = 0) (he6 : Eo (wk M a) 6 (k + 1) j) (w17 : wk M a j = 17) (hbr : Br (wk M a) f (j + 1) e) (heN : e < N) (hT : T ≤ k) (hZ : Z ≤ k) : Cv G y_MM_commandItem (d + 10) [vr a, vi k, vi e] M (fun M' => mOk M' ∧ itX M a g N (e + 1) (itc (wk M a) (nt M (a + 7)) (smx M a) N 60 k e s) M') := by
  generalize es : itc (wk M a) (nt M (a + 7)) (smx M a) N 60 k e s = s'
  have hL := h.1
  have hN := hL.2.1.1.2.2
  have hg := hL.2.2.2.2.2.1
  have w := hL.2.1.1.1
  have g18 := h.2.1.2.2.1
  have hBd := h.2.2.2.2.1
  have hlt := he6.pr.1
  have hbs := hbr.sg.1
  have ie : i32 (e : Int) := i32s (by omega) (by omega)
  have ik : i32 (k : Int) := i32s (by omega) (by omega)
  have kN : k < N := by omega
  have jN : j < N := by omega
  refine k_MM_commandItem hL.1 ik ie ⟨w.1.1, ?_⟩
  rw [show mR M a 10 = g from hL.2.2.2.2.1, g18, show (k : Int) + 1 = ((k + 1 : Nat) : Int) by omega]
  refine ⟨(w.gp hg).1, fun q => x_st_it (d := d + 8) (c := 5) (by decide) ⟨by decide, by decide⟩ hL kN (by rw [← es]; exact itc_many (by rw [hst]; show C = 60; omega)), fun q => ?_⟩
  have hC : C < 60 := by omega
  have n60 : s.2.1.2.2.1 ≠ 60 := by rw [hst]; show C ≠ 60; omega
  have har : nxq (wk M a) 17 N (k + 1) = j := nxq_at (by omega) (by omega) w17 (fun m m1 m2 => by
    have := rwd_all he6 m1 m2
    unfold rwd at this
    omega)
  have e1 := fun z => (itc_f (mc := 60) n60 har z).symm.trans (by rw [es])
  have e2 := fun z => es.symm.trans (itc_ok (mc := 60) n60 har z)
  rw [hst] at e2
  have b60 : ((0 : Int) ≤ (C : Int) ∧ (C : Int) < ((60 : Nat) : Int)) := by omega
  have hT3 : T + (j - (k + 1)) ≤ 30000 := by omega
  refine hL.ub (d := d + 7) (by omega) he6.pr.2.2.2.2.1 jN w17 (Or.inr (Or.inl rfl)) ⟨i32s (by omega) (by omega), hL.1, w.1.1, ?_⟩
  rw [show mR M a 10 = g from hL.2.2.2.2.1, show mR M g 19 = g + 22 from (w.gp hg).2.2.1.2.2.2.2.1]
  refine ⟨(w.gp hg).1, hL.wd (d := d + 8) kN (fun x hx ix => ⟨ix, hL.1, fun v hv => ⟨(w.gp hg).2.2.2.2.2.1.1, by rw [(w.gp hg).2.2.2.2.2.1.2]; exact b60, fun M2 e2' => ?_⟩⟩)⟩
  rw [Int.toNat_natCast] at e2' ⊢
  have iv : i32 v := by rw [hv]; split <;> exact ⟨by decide, by decide⟩
  obtain ⟨c2, f2, a2, G2⟩ := h.ci.st (i := 22) iv (by omega) (by omega) (by decide) (by decide) e2'
  have L2 := c2.1
  have w2 := L2.2.1.1.1
  rw [show mR M2 a 10 = g from L2.2.2.2.2.1, show mR M2 g 20 = g + 23 from (w2.gp hg).2.2.1.2.2.2.2.2.1]
  refine ⟨w2.1.1, (w2.gp hg).1, (s_MM_place0 (d := d + 8) L2.1 L2.2.1 kN).mono (fun y M3 h3 => ?_)⟩
  obtain ⟨e3, hy⟩ := h3
  subst e3
  have hy32 : i32 y := by rw [hy]; exact (L2.1 _ _).1
  refine ⟨hy32, L2.1, (w2.gp hg).2.2.2.2.2.2.1.1, by rw [(w2.gp hg).2.2.2.2.2.2.1.2]; exact b60, fun M4 e4 => ?_⟩
  obtain ⟨c4, f4, a4, G4⟩ := c2.st (i := 23) hy32 (by omega) (by omega) (by decide) (by decide) e4
  have L4 := c4.1
  have w4 := L4.2.1.1.1
  have wkE := c4.2.1.wk hg
  have z4 : mI M4 a 16 = 0 := by rw [a4, a2]; exact h16
  have rs4 : RSq M4 a g K s.1 := (hS.st (i := 22) hL iv (by omega) (by decide) (by decide) e2').st (i := 23) L2 hy32 (by omega) (by decide) (by decide) e4
  rw [show mR M4 a 10 = g from L4.2.2.2.2.1, show mR M4 g 21 = g + 24 from (w4.gp hg).2.2.1.2.2.2.2.2.2.1]
  refine ⟨w4.1.1, (w4.gp hg).1, (x_crule (d := d + 2) c4 rs4 z4 w (Or.inr rfl) hT3 he6 jN).mono (fun x5 M5 q5 => ?_)⟩
  obtain ⟨ex, T5, t1, t2, Rl, qx⟩ := q5
  subst ex
  obtain ⟨c5, G5⟩ := c4.rl z4 (Nat.le_of_lt t1) Rl
  have L5 := c5.1
  have w5 := L5.2.1.1.1
  have iT : i32 (T : Int) := i32s (by omega) (by omega)
  refine ⟨iT, L5.1, (w5.gp hg).2.2.2.2.2.2.2.1.1, by rw [(w5.gp hg).2.2.2.2.2.2.2.1.2]; exact b60, fun M6 e6 => ?_⟩
  obtain ⟨c6, f6, a6, G6⟩ := c5.st (i := 24) iT (by omega) (by omega) (by decide) (by decide) e6
  have L6 := c6.1
  have w6 := L6.2.1.1.1
  rw [show mR M6 a 10 = g from L6.2.2.2.2.1, show mR M6 g 22 = g + 25 from (w6.gp hg).2.2.1.2.2.2.2.2.2.2.1]
  refine ⟨w6.1.1, (w6.gp hg).1, (w6.gp hg).2.2.2.2.2.2.2.2.1.1, by rw [(w6.gp hg).2.2.2.2.2.2.2.2.1.2]; exact b60, fun M7 e7 => ?_⟩
  obtain ⟨c7, f7, a7, G7⟩ := c6.st (i := 25) ⟨by decide, by decide⟩ (by omega) (by omega) (by decide) (by decide) e7
  have aI7 : mI M7 a = mI M5 a := by rw [a7, a6]
  have a75 : mI M7 a 16 = mI M5 a 16 := by rw [a7, a6]
  have rs7 : RSq M5 a g K s.1 → RSq M7 a g K s.1 := fun r5 => (r5.st (i := 24) L5 iT (by omega) (by decide) (by decide) e6).st (i := 25) L6 ⟨by decide, by decide⟩ (by omega) (by decide) (by decide) e7
  rw [show (j : Int) + 1 = ((j + 1 : Nat) : Int) by omega]
  by_cases z7 : mI M7 a 16 = 0
  · have z5 : mI M5 a 16 = 0 := by rw [← a75]; exact z7
    have r24 : mI M7 (g + 24) C = (T : Int) := by rw [f7, if_neg (fun z => by omega), f6, if_pos ⟨rfl, rfl⟩]
    have r25 : mI M7 (g + 25) C = 0 := by rw [f7, if_pos ⟨rfl, rfl⟩]
    have D4 := c4.2.2.2.2 z4
    have rt := ((rl_rt L4 c4.2.2.1.2.1 c4.2.2.1.2.2 D4 Rl z5).gn G6 D4.1.1).gn G7 D4.1.1
    obtain ⟨u1, -, u3⟩ : (rf9 (wk M a) (nt M (a + 7)) (smx M a) s.1 0 1 (k + 1) j).1 = 0 ∧ mI M5 a 16 = 0 ∧ RSq M5 a g K s.1 := by
      rcases qx with ⟨y1, y2⟩ | y
      · rw [y2.1] at z5; exact absurd z5 y1
      · exact y
    rw [fst9_r u1] at e1 e2
    refine x_ci_run h hC heN hg f N (j + 1) 0 T5 Z M7 (by omega) (by omega) c7 (rs7 u3) z7 ?_ r25 hbr (by omega) (by omega) (fun z => (e1 z).symm) e2
    unfold Cc
    rw [r24, r25]
    exact ⟨rt, by decide, by decide, fun b hb => absurd hb (by omega)⟩
  · refine x_ci_end (s := s) h hC c7 heN (fun y => absurd y z7) (fun y => absurd y z7) (fun _ => ?_) (fun y => absurd y z7) (i32s (by omega) (by omega)) (Or.inl z7)
    rcases qx with ⟨y1, y2⟩ | ⟨-, y, -⟩
    · rw [fst9_l y1] at e1
      rw [← e1 y1]
      exact ⟨y1, by rw [aI7]; exact y2.1, by rw [aI7]; exact y2.2⟩
    · rw [a75] at z7; exact absurd y z7
end CXA
end
