section
/-! The reference: what working out may change. -/
section EO
variable {G : mG} {F : Prop} {d a g R W T V X n : Nat} {M M2 M3 M4 : mM} {P S : Nat → Prop}
/-- the game's rules and variables, and where the variables stand -/
def gsame (M : mM) (a g : Nat) (M3 : mM) : Prop := mI M3 (g + 13) = mI M (g + 13) ∧ mI M3 (g + 14) = mI M (g + 14) ∧ mI M3 (g + 15) = mI M (g + 15) ∧ mI M3 (g + 18) = mI M (g + 18) ∧ mL M3 (g + 16) = mL M (g + 16) ∧ mL M3 (g + 17) = mL M (g + 17) ∧ mI M3 (a + 101) = mI M (a + 101)
abbrev woS (a : Nat) : Nat → Prop := fun x => x = a ∨ x = a + 97 ∨ x = a + 98 ∨ x = a + 102 ∨ x = a + 103 ∨ x = a + 104
theorem gs_mv (hg : g = a + 13 ∨ g = a + 49) (w : Wd M a) (m : Mv P S M a M3) (hin : ∀ q, P q → q ∈ nums a) (hS : ∀ x, S x → woS a x) : gsame M a g M3 := by
  have no : ∀ i, 13 ≤ i → i ≤ 18 → ¬ S (g + i) := fun i i1 i2 z => by
    have : g + i = a ∨ g + i = a + 97 ∨ g + i = a + 98 ∨ g + i = a + 102 ∨ g + i = a + 103 ∨ g + i = a + 104 := hS _ z
    omega
  have c13 := m.cellL w hin (goffx (i := 13) hg (by decide) (by decide)) (no 13 (by omega) (by omega))
  have c14 := m.cellL w hin (goffx (i := 14) hg (by decide) (by decide)) (no 14 (by omega) (by omega))
  have c15 := m.cellL w hin (goffx (i := 15) hg (by decide) (by decide)) (no 15 (by omega) (by omega))
  have c16 := m.cellL w hin (goffx (i := 16) hg (by decide) (by decide)) (no 16 (by omega) (by omega))
  have c17 := m.cellL w hin (goffx (i := 17) hg (by decide) (by decide)) (no 17 (by omega) (by omega))
  have c18 := m.cellL w hin (goffx (i := 18) hg (by decide) (by decide)) (no 18 (by omega) (by omega))
  have c101 := m.cellL w hin (offx (a := a) (o := 101) (by decide)) (fun z => by
    have : a + 101 = a ∨ a + 101 = a + 97 ∨ a + 101 = a + 98 ∨ a + 101 = a + 102 ∨ a + 101 = a + 103 ∨ a + 101 = a + 104 := hS _ z
    omega)
  exact ⟨c13.1, c14.1, c15.1, c18.1, c16.2, c17.2, c101.1⟩
theorem gsame.tyn (h : gsame M a g M3) : tn M3 g = tn M g := by
  funext v
  unfold tn
  rw [h.2.1, h.2.2.2.1]
theorem Ev.step (h : Ev F M a g R W T) (m : Mv P S M a M3) (hP : ∀ q, P q → q = a + 99) (hS : ∀ x, S x → vS a x) : Ev F M3 a g R W T := by
  obtain ⟨hO, w, hg, hd, hB, hr, hw⟩ := h
  have hin : ∀ q, P q → q ∈ nums a := fun q hq => by rw [hP q hq]; exact n99
  have hS' : ∀ x, S x → woS a x := fun x z => by
    have : x = a ∨ x = a + 97 ∨ x = a + 98 := hS _ z
    show x = a ∨ x = a + 97 ∨ x = a + 98 ∨ x = a + 102 ∨ x = a + 103 ∨ x = a + 104
    omega
  have gs := gs_mv hg w m hin hS'
  have no : ∀ i, 102 ≤ i → i ≤ 104 → ¬ S (a + i) := fun i i1 i2 z => by
    have : a + i = a ∨ a + i = a + 97 ∨ a + i = a + 98 := hS _ z
    omega
  have c102 := (m.cellL w hin (offx (a := a) (o := 102) (by decide)) (no 102 (by omega) (by omega))).1
  have c103 := (m.cellL w hin (offx (a := a) (o := 103) (by decide)) (no 103 (by omega) (by omega))).2
  have c104 := (m.cellL w hin (offx (a := a) (o := 104) (by decide)) (no 104 (by omega) (by omega))).2
  have gt := gs.tyn
  obtain ⟨g13, g14, g15, g18, g16, g17, g101⟩ := gs
  refine ⟨m.1, m.2.1, hg, fun q hq => ?_, hB, ?_, ?_⟩
  · have hq' : q = g + 1 ∨ q = g + 3 ∨ q = g + 5 ∨ q = g + 7 ∨ q = g + 9 ∨ q = g + 11 := hq
    rw [(m.lst (tL_in hg hq) (fun z => by have := hP q z; omega)).1]
    exact hd q hq
  · rw [gt, g13, g16, g17, c102, c103, c104]
    exact hr
  · rw [gt, g18, g101]
    exact hw
/-- so far, working out has changed only what it may -/
def EO (F : Prop) (M : mM) (a g R W T : Nat) (M3 : mM) : Prop := Mv (fun x => x = a + 99) (woS a) M a M3 ∧ Ev F M3 a g R W T ∧ ∀ i, i ≠ 16 → i ≠ 17 → i ≠ 23 → mI M3 a i = mI M a i
theorem lt99 (w : Wd M a) : ∀ q, q = a + 99 → q < mZ M := fun q hq => by rw [hq]; exact w.lt n99
theorem EO.refl (h : Ev F M a g R W T) : EO F M a g R W T M := ⟨Mv.refl h.1 h.2.1 (lt99 h.2.1), h, fun _ _ _ _ => rfl⟩
theorem EO.step (h : EO F M a g R W T M2) (m : Mv P S M2 a M3) (hP : ∀ q, P q → q = a + 99) (hS : ∀ x, S x → vS a x) (hf : ∀ i, i ≠ 16 → i ≠ 17 → i ≠ 23 → mI M3 a i = mI M2 a i) : EO F M a g R W T M3 := by
  refine ⟨h.1.trans (m.mono hP (fun x hx => ?_) (lt99 h.1.2.1)), h.2.1.step m hP hS, fun i i1 i2 i3 => (hf i i1 i2 i3).trans (h.2.2 i i1 i2 i3)⟩
  have : x = a ∨ x = a + 97 ∨ x = a + 98 := hS _ hx
  show x = a ∨ x = a + 97 ∨ x = a + 98 ∨ x = a + 102 ∨ x = a + 103 ∨ x = a + 104
  omega
theorem EO.gs (w : Wd M a) (h : EO F M a g R W T M3) : gsame M a g M3 :=
  gs_mv h.2.1.2.2.1 w h.1 (fun q hq => by rw [hq]; exact n99) (fun x hx => hx)
theorem EO.nod (h : EO F M a g R W T M3) : ∀ n, so M3 g n = so M g n ∧ va M3 g n = va M g n ∧ fp M3 g n = fp M g n ∧ np M3 g n = np M g n := by
  have hg := h.2.1.2.2.1
  intro n
  exact ⟨(h.1.lst (tL_in (q := g + 1) hg (by omega)) (by omega)).2.1 n, (h.1.lst (tL_in (q := g + 7) hg (by omega)) (by omega)).2.1 n, (h.1.lst (tL_in (q := g + 9) hg (by omega)) (by omega)).2.1 n, (h.1.lst (tL_in (q := g + 11) hg (by omega)) (by omega)).2.1 n⟩
theorem EO.tnn {nm : Int → Prop} {f md n e : Nat} (h : EO F M a g R W T M3) (t : Tn nm M g f md n e) : Tn nm M3 g f md n e :=
  t.fr (fun k _ _ => ⟨(h.nod k).1, (h.nod k).2.1, (h.nod k).2.2.1⟩) (fun k _ _ => (h.nod k).2.2.2) (fun _ => (h.nod n).2.2.2)
/-- a step of the pile alone -/
theorem kp99 (w : Wd M2 a) (m : Mv (fun x => x = a + 99) (fun _ => False) M2 a M3) : mI M3 a = mI M2 a ∧ mL M3 (a + 97) = mL M2 (a + 97) ∧ mL M3 (a + 98) = mL M2 (a + 98) := by
  have hin : ∀ q, q = a + 99 → q ∈ nums a := fun q hq => by rw [hq]; exact n99
  exact ⟨(m.fld w hin (fun z => z)).1, (m.cellL w hin (offx (a := a) (o := 97) (by decide)) (fun z => z)).2, (m.cellL w hin (offx (a := a) (o := 98) (by decide)) (fun z => z)).2⟩
theorem EO.pile (h : EO F M a g R W T M2) (m : Mv (fun x => x = a + 99) (fun _ => False) M2 a M3) : EO F M a g R W T M3 :=
  h.step m (fun q hq => hq) (fun x hx => hx.elim) (fun i _ _ _ => by rw [(kp99 h.1.2.1 m).1])
theorem vok_i64 {t A B : Int} (h : vok t A B) : i64 A ∧ i64 B := by
  unfold vok at h
  exact ⟨⟨by omega, by omega⟩, ⟨by omega, by omega⟩⟩
/-- a formula's value is kept -/
theorem EO.met {r : Nat} {A B : Int} {M5 M6 : mM} (w0 : Wd M a) (h : EO F M a g R W T M3) (hv : vok (tn M g r) A B) (e4 : M4 = mUI M3 (a + 102) r 1) (e5 : M5 = mUL M4 (a + 103) r A) (e6 : M6 = mUL M5 (a + 104) r B) : EO F M a g R W T M6 ∧ mI M6 a = mI M3 a ∧ sameN M3 M6 (a + 99) ∧ mL M6 (a + 97) = mL M3 (a + 97) ∧ mL M6 (a + 98) = mL M3 (a + 98) := by
  have w3 := h.1.2.1
  have gs := h.gs w0
  obtain ⟨hA, hB⟩ := vok_i64 hv
  have o102 := offx (a := a) (o := 102) (by decide)
  have f4 : FI (fun x => x = a + 102) M3 M4 := by rw [e4]; exact FI.ui rfl
  have m4 : Mv (fun _ => False) (fun x => x = a + 102) M3 a M4 := mv_fi (by rw [e4]; exact mOk_UI h.1.1 ⟨by decide, by decide⟩) w3 f4 (fun x z => by rw [z]; exact ⟨by omega, by omega, o102.2.1, o102.2.2⟩)
  obtain ⟨m5, l5, i5⟩ := mv_ul hA m4.1 m4.2.1 e5
  obtain ⟨m6, l6, i6⟩ := mv_ul hB m5.1 m5.2.1 e6
  have no : ∀ q : Nat, False → q = a + 99 := fun _ z => z.elim
  have mm : Mv (fun x => x = a + 99) (woS a) M3 a M6 := ((m4.mono no (fun x z => Or.inr (Or.inr (Or.inr (Or.inl z)))) (lt99 w3)).trans (m5.mono no (fun x z => Or.inr (Or.inr (Or.inr (Or.inr (Or.inl z))))) (lt99 m4.2.1))).trans (m6.mono no (fun x z => Or.inr (Or.inr (Or.inr (Or.inr (Or.inr z))))) (lt99 m5.2.1))
  have iI : ∀ x, x ≠ a + 102 → mI M6 x = mI M3 x := fun x hx => by rw [i6, i5]; exact f4.2.2.2.2.2.2 x hx
  have lM4 : mL M4 = mL M3 := f4.2.2.2.1
  have lL : ∀ x, x ≠ a + 103 → x ≠ a + 104 → mL M6 x = mL M3 x := fun x h1 h2 => by
    funext k
    rw [l6, if_neg (fun z => h2 z.1), l5, if_neg (fun z => h1 z.1), lM4]
  have s99 : sameN M3 M6 (a + 99) := ((m4.lst n99 (fun z => z)).trans (m5.lst n99 (fun z => z))).trans (m6.lst n99 (fun z => z))
  obtain ⟨hO, w, hg, hd, hBd, hr, hw⟩ := id h.2.1
  have gs6 := gs_mv hg w3 mm (fun q hq => by rw [hq]; exact n99) (fun x hx => hx)
  have gt := gs6.tyn
  have gt3 := gs.tyn
  refine ⟨⟨h.1.trans mm, ⟨m6.1, m6.2.1, hg, fun q hq => ?_, hBd, ?_, ?_⟩, fun i i1 i2 i3 => by rw [iI a (by omega)]; exact h.2.2 i i1 i2 i3⟩, iI a (by omega), s99, lL _ (by omega) (by omega), lL _ (by omega) (by omega)⟩
  · have hq' : q = g + 1 ∨ q = g + 3 ∨ q = g + 5 ∨ q = g + 7 ∨ q = g + 9 ∨ q = g + 11 := hq
    rw [(mm.lst (tL_in hg hq) (by omega)).1]
    exact hd q hq
  · obtain ⟨g13, g14, g15, g18, g16, g17, g101⟩ := gs6
    rw [gt, g13, g16, g17]
    intro r' hr'
    refine ⟨(hr r' hr').1, fun hF q1 q2 => ?_⟩
    by_cases z : r' = r
    · rw [l6, l5, l6, if_neg (fun y => by omega), if_pos ⟨rfl, z⟩, if_pos ⟨rfl, z⟩, z, gt3]
      exact hv
    · rw [l6, l5, l6, l5, if_neg (fun y => z y.2), if_neg (fun y => z y.2), if_neg (fun y => z y.2), if_neg (fun y => z y.2), lM4]
      rw [i6, i5, e4, mI_UI, if_neg (fun y => z y.2)] at q2
      exact (hr r' hr').2 hF q1 q2
  · obtain ⟨g13, g14, g15, g18, g16, g17, g101⟩ := gs6
    rw [gt, g18, g101]
    exact hw
end EO
end
section
/-! The reference: working out, a step. -/
section WO
variable {G : mG} {F : Prop} {d a g R W T : Nat} {M M2 M3 M4 : mM} {Q : mM → Prop} {E : Nat → Nat}
/-- the formulas' trees -/
def Fm (M : mM) (g R W T : Nat) (E : Nat → Nat) : Prop := ∀ r : Nat, r < R → mI M (g + 13) r ≠ 0 → ∃ n f : Nat, mI M (g + 15) r = (n : Int) ∧ E r ≤ T ∧ (∀ r' : Nat, r' < r → mI M (g + 13) r' ≠ 0 → E r' ≤ n) ∧ Ty (nme True M g r W) (tn M g) M g f 0 n (E r) (fun _ => tn M g r)
/-- a pair has been taken from the pile -/
def tkd (M2 : mM) (a X : Nat) (M4 : mM) : Prop := Mv (fun x => x = a + 99) (fun _ => False) M2 a M4 ∧ ln M4 (a + 99) = (X : Int) ∧ ∀ j, nt M4 (a + 99) j = nt M2 (a + 99) j
theorem s_wo2 {n X : Nat} {s : Int} (h : EO F M a g R W T M2) (h16 : mI M2 a 16 = 0) (hl : ln M2 (a + 99) = (X + 2 : Nat)) (hs : s = 0 ∨ s = 1 ∨ s = 2 ∨ s = 3) (e0 : nt M2 (a + 99) X = s) (e1 : nt M2 (a + 99) (X + 1) = (n : Int))
    (h0 : s = 0 → ∀ M4, tkd M2 a X M4 → Cv G y_MM_begin (d + 3) [vr a, vr g, vi n] M4 (fun M5 => mOk M5 ∧ h_MM_workOut_19 G (d + 3) a g M5 Q))
    (h1 : s = 1 → ∀ M4, tkd M2 a X M4 → Cv G y_MM_finish (d + 3) [vr a, vr g, vi n] M4 (fun M5 => mOk M5 ∧ h_MM_workOut_19 G (d + 3) a g M5 Q))
    (h2 : s = 2 → ∀ M4, tkd M2 a X M4 → Cv G y_MM_choose0 (d + 3) [vr a, vr g, vi n] M4 (fun M5 => mOk M5 ∧ h_MM_workOut_19 G (d + 3) a g M5 Q))
    (h3 : s = 3 → ∀ M4, tkd M2 a X M4 → n < 60 ∧ ∃ V : Nat, mI M4 a 23 = (V + 1 : Nat) ∧ V < 16400 ∧ ∀ M5 M6 M7, M5 = mUI M4 (a + 102) n 1 → M6 = mUL M5 (a + 103) n (mL M4 (a + 97) V) → M7 = mUL M6 (a + 104) n (mL M4 (a + 98) V) → mOk M7 ∧ h_MM_workOut_19 G (d + 3) a g M7 Q) : h_MM_workOut_19 G (d + 3) a g M2 Q := by
  have hO := h.1.1
  have w := h.1.2.1
  have hl' : mI M2 (a + 99) 1 = (X + 2 : Nat) := hl
  refine k_MM_workOut_19 hO ?_
  rw [r24w w, hl', h16]
  refine ⟨w.1.1, (w.nu n99).1, fun q => by omega, fun _ => (s_MN_take hO (w.nu n99) (by omega)).mono (fun x M3 t => ?_)⟩
  have m3 := mv_take w n99 t
  have w3 := m3.2.1
  obtain ⟨-, -, -, t1, t2, t3⟩ := t
  rw [hl] at t1 t3
  rw [show (((X + 2 : Nat) : Int) - 1).toNat = X + 1 by omega, e1] at t3
  rw [r24w w3]
  refine ⟨by rw [t3, ← e1]; exact (hO _ _).1, m3.1, w3.1.1, (w3.nu n99).1, (s_MN_take m3.1 (w3.nu n99) (by omega)).mono (fun y M4 t => ?_)⟩
  have m4 := mv_take w3 n99 t
  have w4 := m4.2.1
  obtain ⟨-, -, -, u1, u2, u3⟩ := t
  rw [t1] at u1 u3
  rw [show (((X + 2 : Nat) : Int) - 1 - 1).toNat = X by omega, t2, e0] at u3
  subst t3
  subst u3
  have tk : tkd M2 a X M4 := ⟨m3.trans m4, by rw [u1]; omega, fun j => by rw [u2, t2]⟩
  have go : ∀ M5, mOk M5 ∧ h_MM_workOut_19 G (d + 3) a g M5 Q → mOk M5 ∧ h_MM_workOut_138 G (d + 3) a g M5 Q := fun M5 z => ⟨z.1, k_MM_workOut_138 z.1 z.2⟩
  refine ⟨i32s (by omega) (by omega), m4.1, fun q => ⟨w4.1.1, (h0 q M4 tk).mono go⟩, fun q0 => ⟨fun q => ⟨w4.1.1, (h1 q M4 tk).mono go⟩, fun q1 => ⟨fun q => ⟨w4.1.1, (h2 q M4 tk).mono go⟩, fun q2 => ?_⟩⟩⟩
  obtain ⟨n60, V, hV, hVb, hk⟩ := h3 (by omega) M4 tk
  have B := w4.1.2.2.2.2.1.2.2.2.2.2.2
  have r21 : mR M4 a 21 = a + 97 := B.1
  have r22 : mR M4 a 22 = a + 98 := B.2.1
  have r26 : mR M4 a 26 = a + 102 := B.2.2.2.2.1
  have r27 : mR M4 a 27 = a + 103 := B.2.2.2.2.2.1
  have r28 : mR M4 a 28 = a + 104 := B.2.2.2.2.2.2
  obtain ⟨A97, A98, A101, A102, A103, A104⟩ := w4.1.2.2.2.2.2.2.2.1
  rw [r26]
  refine ⟨w4.1.1, A102.1, by rw [A102.2]; omega, fun M5 e5 => ?_⟩
  rw [Int.toNat_natCast] at e5
  have R5 : mR M5 = mR M4 := by rw [e5]; rfl
  have K5 : mK M5 = mK M4 := by rw [e5]; rfl
  have N5 : mN M5 = mN M4 := by rw [e5]; rfl
  have L5 : mL M5 = mL M4 := by rw [e5]; rfl
  have I5 : mI M5 a 23 = (V + 1 : Nat) := by rw [e5, mI_UI, if_neg (fun z => by omega)]; exact hV
  rw [R5, K5, N5, L5, I5, r21, r27, show ((V + 1 : Nat) : Int) - 1 = (V : Int) by omega, Int.toNat_natCast, Int.toNat_natCast]
  refine ⟨A97.1, by rw [A97.2]; omega, A103.1, by rw [A103.2]; omega, fun M6 e6 => ?_⟩
  have R6 : mR M6 = mR M4 := by rw [e6]; exact R5
  have K6 : mK M6 = mK M4 := by rw [e6]; exact K5
  have N6 : mN M6 = mN M4 := by rw [e6]; exact N5
  have I6 : mI M6 a 23 = (V + 1 : Nat) := by rw [e6]; exact I5
  have L6 : mL M6 (a + 98) = mL M4 (a + 98) := by
    funext k
    rw [e6, mL_UL, if_neg (fun z => by omega), L5]
  rw [R6, K6, N6, I6, r22, r28, show ((V + 1 : Nat) : Int) - 1 = (V : Int) by omega, Int.toNat_natCast, L6]
  refine ⟨A98.1, by rw [A98.2]; omega, A104.1, by rw [A104.2]; omega, fun M7 e7 => ?_⟩
  have := hk M5 M6 M7 e5 e6 e7
  exact k_MM_workOut_138 this.1 this.2
/-- a fault ends it -/
theorem s_wo_f (hX : ∀ M3, EO F M a g R W T M3 → mI M3 a 16 ≠ 0 → Q M3) (h : EO F M a g R W T M3) (k : mI M3 a 16 = 0 → h_MM_workOut_19 G (d + 3) a g M3 Q) : h_MM_workOut_19 G (d + 3) a g M3 Q := by
  by_cases z : mI M3 a 16 = 0
  · exact k z
  · have w := h.1.2.1
    refine k_MM_workOut_19 h.1.1 ?_
    rw [r24w w]
    exact ⟨w.1.1, (w.nu n99).1, fun _ => hX M3 h z, fun q => absurd (Or.inr z) q⟩
theorem ci_cg {n : Nat} (h : ∀ k, np M4 g k = np M g k) : ∀ j, ci M4 g n j = ci M g n j
  | 0 => rfl
  | j + 1 => by rw [ci, ci, ci_cg h j]; exact h _
/-- trees have been worked out -/
def woR (F : Prop) (M : mM) (a g R W T Lk V kk : Nat) (u : Nat → Int) (M2 M3 : mM) : Prop := EO F M a g R W T M3 ∧ mI M3 a 16 = 0 ∧ ln M3 (a + 99) = (Lk : Int) ∧ (∀ j, j < Lk → nt M3 (a + 99) j = nt M2 (a + 99) j) ∧ mI M3 a 23 = (V + kk : Nat) ∧ (∀ j, j < V → mL M3 (a + 97) j = mL M2 (a + 97) j ∧ mL M3 (a + 98) j = mL M2 (a + 98) j) ∧ ∀ j, j < kk → vok (u j) (mL M3 (a + 97) (V + j)) (mL M3 (a + 98) (V + j))
theorem nme.up {b : Nat} {v : Int} (h : nme F M g b W v) (hb : b ≤ R) : nme F M g R W v := by
  rcases h with ⟨h1, h2, h3⟩ | h
  · exact Or.inl ⟨h1, by omega, h3⟩
  · exact Or.inr h
theorem nme.tr {b : Nat} {v : Int} (h : nme True M g b W v) (hF : F) : nme F M g b W v := by
  rcases h with ⟨h1, h2, h3⟩ | h
  · exact Or.inl ⟨h1, h2, Or.inl hF⟩
  · exact Or.inr ⟨hF, h.2⟩
theorem nme.gs {b : Nat} {v : Int} (h : nme F M g b W v) (gs : gsame M a g M3) : nme F M3 g b W v := by
  unfold nme
  rw [gs.1]
  exact h
end WO
end
section
/-! The reference: working out a tree. -/
section WR
variable {G : mG} {F : Prop} {d a g R W T : Nat} {M : mM} {Q : mM → Prop} {E : Nat → Nat}
theorem s_wo_run (h0 : Ev F M a g R W T) (hF : F → Fm M g R W T E) (hX : ∀ M3, EO F M a g R W T M3 → mI M3 a 16 ≠ 0 → Q M3) : ∀ (b f md n e n0 e0 Lk V kk : Nat) (u : Nat → Int) (M2 : mM), b ≤ R → (∀ r : Nat, r < b → mI M (g + 13) r ≠ 0 → E r ≤ n0) → kk = md + (1 - md) → Ty (nme F M g b W) (tn M g) M g f md n e u → n0 ≤ n → e ≤ e0 → e0 ≤ T → EO F M a g R W T M2 → mI M2 a 16 = 0 → ln M2 (a + 99) = (Lk + 2 * kk : Nat) → (∀ j, j < kk → nt M2 (a + 99) (Lk + 2 * (kk - 1 - j)) = 0 ∧ nt M2 (a + 99) (Lk + 2 * (kk - 1 - j) + 1) = ci M g n j) → mI M2 a 23 = (V : Int) → V + e0 ≤ T + (n - n0) → Lk + 2 * (e - n) ≤ 2 * (T - n0) → (∀ M3, woR F M a g R W T Lk V kk u M2 M3 → h_MM_workOut_19 G (d + 3) a g M3 Q) → h_MM_workOut_19 G (d + 3) a g M2 Q := by
  have w0 := h0.2.1
  have hBd := h0.2.2.2.2.1
  intro b
  induction b using Nat.strongRecOn with
  | _ b ihb =>
  intro f
  induction f using Nat.strongRecOn with
  | _ f ih =>
  intro md n e n0 e0 Lk V kk u M2 hbR hbE hkk ht hn0 he he0 h h16 lk pk hV hVb hLb hQ
  have hlt := ht.tn.lt
  cases f with
  | zero => exact ht.elim
  | succ f =>
    rw [Ty] at ht
    by_cases c0 : md = 0
    · subst c0
      have kk1 : kk = 1 := by omega
      subst kk1
      rw [if_pos rfl] at ht
      obtain ⟨p0, p1⟩ := pk 0 (by omega)
      rw [show Lk + 2 * (1 - 1 - 0) = Lk by omega] at p0 p1
      have pn : nt M2 (a + 99) (Lk + 1) = (n : Int) := p1
      obtain ⟨-, -, ht⟩ := ht
      rcases ht with ⟨b1, b2, b3, b4, b5, b6⟩ | ⟨k, c, b1, b2, b3, b4, b5⟩
      · -- a leaf
        refine s_wo2 (n := n) (X := Lk) (s := 0) h h16 lk (Or.inl rfl) p0 pn (fun _ M4 t4 => ?_) (fun z => absurd z (by decide)) (fun z => absurd z (by decide)) (fun z => absurd z (by decide))
        obtain ⟨m4, l4, e4⟩ := t4
        have E4 := h.pile m4
        have K4 := kp99 h.1.2.1 m4
        have nd4 := E4.nod n
        have gs4 := E4.gs w0
        refine (s_bg_leaf (t := u 0) (V := V) (X := Lk) E4.2.1 (by omega) (by rw [nd4.1]; exact b3) (by rw [nd4.1, nd4.2.1]; exact b4) (by rw [nd4.1, nd4.2.1]; exact fun z => ((b5 z).up hbR).gs gs4) (by rw [nd4.1, nd4.2.1, gs4.tyn]; exact b6) (by rw [K4.1]; exact hV) (by omega) l4 (by omega)).mono (fun M5 t5 => ⟨t5.1, ?_⟩)
        rcases t5.2 with ⟨A, B, v1, v2⟩ | ⟨q1, q2, q3⟩
        · obtain ⟨y1, y2, y3, y4, y5⟩ := v2
          have E5 := E4.step y1 (fun _ z => z.elim) (fun x hx => hx) (fun i _ _ i3 => y3 i i3)
          have s5 := y1.lst (n99 (a := a)) (fun z => z)
          refine hQ M5 ⟨E5, by rw [y3 16 (by omega), K4.1]; exact h16, by rw [s5.1]; exact l4, fun j hj => by rw [s5.2.1, e4], y2, fun j hj => ⟨by rw [y4, if_neg (by omega), K4.2.1], by rw [y5, if_neg (by omega), K4.2.2]⟩, fun j hj => ?_⟩
          have j0 : j = 0 := by omega
          subst j0
          rw [y4, y5, if_pos (by omega), if_pos (by omega)]
          exact v1
        · obtain ⟨fF, f1, f2, f3, m5, l5, e5, x3, xv, x0, xr⟩ := q3
          rw [nd4.2.1] at f1 f2 f3 xv xr q2
          rw [nd4.1] at q1
          rw [gs4.tyn] at q2
          rw [gs4.1] at f2
          rw [gs4.2.2.1] at xr
          have hv := b5 q1
          obtain ⟨r, hr, hrb⟩ : ∃ r : Nat, va M g n = (r : Int) ∧ r < b := by
            rcases hv with z | z
            · exact ⟨(va M g n).toNat, by omega, by omega⟩
            · exact absurd z.2.1 (by omega)
          rw [hr] at f2 f3 xv xr q2
          rw [Int.toNat_natCast] at f2 f3 xr
          obtain ⟨n', f', fr1, fr2, fr3, fr4⟩ := hF fF r (by omega) f2
          have E5 := E4.pile m5
          have K5 := kp99 E4.1.2.1 m5
          have hE := hbE r hrb f2
          have lt' := fr4.tn.lt
          refine ihb r hrb f' 0 n' (E r) n' (E r) (Lk + 2) V 1 (fun _ => tn M g r) M5 (by omega) fr3 (by omega) (fr4.mono (fun v z => ⟨z.tr fF, rfl⟩)) (Nat.le_refl _) (Nat.le_refl _) fr2 E5 (by rw [K5.1, K4.1]; exact h16) (by rw [l5]) (fun j hj => ?_) (by rw [K5.1, K4.1]; exact hV) (by omega) (by omega) (fun M6 h6 => ?_)
          · have j0 : j = 0 := by omega
            subst j0
            exact ⟨x0, xr.trans fr1⟩
          · obtain ⟨E6, z16, l6, e6, v6, k6, o6⟩ := h6
            refine s_wo2 (n := r) (X := Lk) (s := 3) E6 z16 l6 (Or.inr (Or.inr (Or.inr rfl))) (by rw [e6 Lk (by omega)]; exact x3) (by rw [e6 (Lk + 1) (by omega)]; exact xv) (fun z => absurd z (by decide)) (fun z => absurd z (by decide)) (fun z => absurd z (by decide)) (fun _ M7 t7 => ?_)
            obtain ⟨m7, l7, e7⟩ := t7
            have E7 := E6.pile m7
            have K7 := kp99 E6.1.2.1 m7
            refine ⟨by omega, V, by rw [K7.1]; exact v6, by omega, fun M8 M9 M10 e8 e9 e10 => ?_⟩
            have o := o6 0 (by omega)
            rw [show V + 0 = V by omega, ← K7.2.1, ← K7.2.2] at o
            obtain ⟨E10, i10, s10, la10, lb10⟩ := E7.met w0 o e8 e9 e10
            refine ⟨E10.1.1, hQ M10 ⟨E10, by rw [i10, K7.1]; exact z16, by rw [s10.1]; exact l7, fun j hj => by rw [s10.2.1, e7, e6 j (by omega), e5 j hj, e4], by rw [i10, K7.1]; exact v6, fun j hj => ⟨by rw [la10, K7.2.1, (k6 j hj).1, K5.2.1, K4.2.1], by rw [lb10, K7.2.2, (k6 j hj).2, K5.2.2, K4.2.2]⟩, fun j hj => ?_⟩⟩
            have j0 : j = 0 := by omega
            subst j0
            rw [q2, la10, lb10]
            exact o
      · -- a node with parts
        have hge := b4.tn.ge
        have nl : ¬ (so M g n = 1 ∨ so M g n = 2 ∨ so M g n = 12 ∨ so M g n = 13) := fun z => by unfold ari at b2; omega
        have hty : tyr (so M g n) k c (u 0) := by
          unfold tyn at b5
          rw [if_neg (by omega), if_neg (by omega), if_neg (by omega)] at b5
          exact b5
        by_cases cs : so M g n = 29 ∨ so M g n = 30 ∨ so M g n = 32
        · -- and, or, ask
          have k2 : 2 ≤ k := by unfold ari at b2; omega
          cases f with
          | zero => exact b4.elim
          | succ f1 =>
            have b4' := b4
            rw [Ty, if_neg (by omega), if_neg (by omega)] at b4'
            obtain ⟨m, q1, q2, q3⟩ := b4'
            have l1 := q2.tn.lt
            have l3 := q3.tn.ge
            refine s_wo2 (n := n) (X := Lk) (s := 0) h h16 lk (Or.inl rfl) p0 pn (fun _ M4 t4 => ?_) (fun z => absurd z (by decide)) (fun z => absurd z (by decide)) (fun z => absurd z (by decide))
            obtain ⟨m4, l4, e4⟩ := t4
            have E4 := h.pile m4
            have K4 := kp99 h.1.2.1 m4
            have nd4 := E4.nod n
            refine (s_bg_first (X := Lk) E4.2.1 (by omega) (by rw [nd4.1]; exact cs) l4 (by omega)).mono (fun M5 t5 => ⟨t5.1, ?_⟩)
            obtain ⟨-, m5, l5, e5, x2, xn, x0, xf⟩ := t5
            rw [nd4.2.2.1] at xf
            have E5 := E4.pile m5
            have K5 := kp99 E4.1.2.1 m5
            refine ih f1 (by omega) 0 (n + 1) m n0 e0 (Lk + 2) V 1 c M5 hbR hbE (by omega) q2 (by omega) (by omega) he0 E5 (by rw [K5.1, K4.1]; exact h16) (by rw [l5]) (fun j hj => ?_) (by rw [K5.1, K4.1]; exact hV) (by omega) (by omega) (fun M6 h6 => ?_)
            · have j0 : j = 0 := by omega
              subst j0
              exact ⟨x0, xf.trans b3⟩
            · obtain ⟨E6, z16, l6, e6, v6, k6, o6⟩ := h6
              refine s_wo2 (n := n) (X := Lk) (s := 2) E6 z16 l6 (Or.inr (Or.inr (Or.inl rfl))) (by rw [e6 Lk (by omega)]; exact x2) (by rw [e6 (Lk + 1) (by omega)]; exact xn) (fun z => absurd z (by decide)) (fun z => absurd z (by decide)) (fun _ M7 t7 => ?_) (fun z => absurd z (by decide))
              obtain ⟨m7, l7, e7⟩ := t7
              have E7 := E6.pile m7
              have K7 := kp99 E6.1.2.1 m7
              have nd7 := E7.nod
              refine (s_MM_choose0 (d := d + 1) (V := V) (X := Lk) (c1 := n + 1) (c2 := m) E7.2.1 (by omega) (by rw [(nd7 n).2.2.1]; exact b3) (by omega) (by rw [(nd7 (n + 1)).2.2.2]; exact q1) (by omega) (by rw [K7.1]; exact v6) (by omega) l7 (by omega)).mono (fun M8 t8 => ⟨t8.1, ?_⟩)
              have lowT : ∀ j, j < Lk → nt M7 (a + 99) j = nt M2 (a + 99) j := fun j hj => by rw [e7, e6 j (by omega), e5 j hj, e4]
              have lowV : ∀ j, j < V → mL M7 (a + 97) j = mL M2 (a + 97) j ∧ mL M7 (a + 98) j = mL M2 (a + 98) j := fun j hj => ⟨by rw [K7.2.1, (k6 j hj).1, K5.2.1, K4.2.1], by rw [K7.2.2, (k6 j hj).2, K5.2.2, K4.2.2]⟩
              rcases t8.2 with ⟨y1, y2⟩ | ⟨cc, hcc, m8, v8, f8, l8, e8, x8, y8⟩
              · subst y2
                rw [(nd7 n).1] at y1
                refine hQ M8 ⟨E7, by rw [K7.1]; exact z16, l7, lowT, by rw [K7.1]; exact v6, lowV, fun j hj => ?_⟩
                have j0 : j = 0 := by omega
                subst j0
                have o := o6 0 (by omega)
                rw [← K7.2.1, ← K7.2.2] at o
                unfold tyr at hty
                rw [if_pos (by omega)] at hty
                rw [hty.2, ← hty.1 0 (by omega)]
                exact o
              · have E8 := E7.step m8 (fun q hq => hq) (fun x hx => Or.inl hx) (fun i _ _ i3 => f8 i i3)
                have w7 := E7.1.2.1
                have in9 : ∀ q, q = a + 99 → q ∈ nums a := fun q hq => by rw [hq]; exact n99
                have l97 := (m8.cellL w7 in9 (offx (a := a) (o := 97) (by decide)) (by omega)).2
                have l98 := (m8.cellL w7 in9 (offx (a := a) (o := 98) (by decide)) (by omega)).2
                obtain ⟨n2, e2, f2, u2, d1, d2, d3, d4, d5, d6⟩ : ∃ (n2 e2 f2 : Nat) (u2 : Nat → Int), cc = (n2 : Int) ∧ f2 < f1 + 1 + 1 ∧ Ty (nme F M g b W) (tn M g) M g f2 0 n2 e2 u2 ∧ u2 0 = u 0 ∧ m ≤ n2 ∧ e2 ≤ e := by
                  unfold tyr at hty
                  cases f1 with
                  | zero => exact q3.elim
                  | succ f2 =>
                    by_cases c32 : so M g n = 32
                    · have k3 : k = 3 := by unfold ari at b2; omega
                      subst k3
                      rw [if_neg (by omega), if_neg (by omega), if_pos c32] at hty
                      rw [Ty, if_neg (by omega), if_neg (by omega)] at q3
                      obtain ⟨m2, r1, r2, r3⟩ := q3
                      have g1 := r2.tn.lt
                      have g2 := r3.tn.lt
                      rcases hcc with z | z
                      · exact ⟨m, m2, f2, _, z, by omega, r2, hty.2.1, Nat.le_refl _, by omega⟩
                      · cases f2 with
                        | zero => exact r3.elim
                        | succ f3 =>
                          rw [Ty, if_neg (by omega), if_pos (by omega)] at r3
                          exact ⟨m2, e, f3, _, z.2.trans ((nd7 m).2.2.2.trans r1), by omega, r3.2, hty.2.2, by omega, Nat.le_refl _⟩
                    · have k3 : k = 2 := by unfold ari at b2; omega
                      subst k3
                      rw [if_pos (by omega)] at hty
                      rw [Ty, if_neg (by omega), if_pos (by omega)] at q3
                      rcases hcc with z | z
                      · exact ⟨m, e, f2, _, z, by omega, q3.2, (hty.1 1 (by omega)).trans hty.2.symm, Nat.le_refl _, Nat.le_refl _⟩
                      · exact absurd ((nd7 n).1.symm.trans z.1) c32
                have g3 := d3.tn.lt
                refine ih f2 d2 0 n2 e2 n0 e0 Lk V 1 u2 M8 hbR hbE (by omega) d3 (by omega) (by omega) he0 E8 (by rw [f8 16 (by omega), K7.1]; exact z16) (by rw [l8]) (fun j hj => ?_) v8 (by omega) (by omega) (fun M9 h9 => hQ M9 ?_)
                · have j0 : j = 0 := by omega
                  subst j0
                  exact ⟨x8, y8.trans d1⟩
                · obtain ⟨E9, y16, l9, e9, v9, k9, o9⟩ := h9
                  refine ⟨E9, y16, l9, fun j hj => by rw [e9 j hj, e8 j hj, lowT j hj], v9, fun j hj => ⟨by rw [(k9 j hj).1, l97, (lowV j hj).1], by rw [(k9 j hj).2, l98, (lowV j hj).2]⟩, fun j hj => ?_⟩
                  have j0 : j = 0 := by omega
                  subst j0
                  rw [← d4]
                  exact o9 0 hj
        · -- the parts first
          refine s_wo2 (n := n) (X := Lk) (s := 0) h h16 lk (Or.inl rfl) p0 pn (fun _ M4 t4 => ?_) (fun z => absurd z (by decide)) (fun z => absurd z (by decide)) (fun z => absurd z (by decide))
          obtain ⟨m4, l4, e4⟩ := t4
          have E4 := h.pile m4
          have K4 := kp99 h.1.2.1 m4
          have nd4 := E4.nod n
          refine (s_bg_parts (X := Lk) E4.2.1 (by omega) b1 (by rw [nd4.1]; omega) (by rw [nd4.2.2.1]; exact b3) (E4.tnn b4.tn) (by omega) l4 (by omega)).mono (fun M5 t5 => ⟨t5.1, ?_⟩)
          obtain ⟨-, m5, l5, e5, x1, xn, v5⟩ := t5
          have E5 := E4.pile m5
          have K5 := kp99 E4.1.2.1 m5
          have cie : ∀ j, ci M4 g (n + 1) j = ci M g (n + 1) j := ci_cg (fun k => (E4.nod k).2.2.2)
          refine ih f (by omega) k (n + 1) e n0 e0 (Lk + 2) V k c M5 hbR hbE (by omega) b4 (by omega) he he0 E5 (by rw [K5.1, K4.1]; exact h16) (by rw [l5]) (fun j hj => ⟨(v5 j hj).1, (v5 j hj).2.trans (cie j)⟩) (by rw [K5.1, K4.1]; exact hV) (by omega) (by omega) (fun M6 h6 => ?_)
          obtain ⟨E6, z16, l6, e6, v6, k6, o6⟩ := h6
          refine s_wo2 (n := n) (X := Lk) (s := 1) E6 z16 l6 (Or.inr (Or.inl rfl)) (by rw [e6 Lk (by omega)]; exact x1) (by rw [e6 (Lk + 1) (by omega)]; exact xn) (fun z => absurd z (by decide)) (fun _ M7 t7 => ?_) (fun z => absurd z (by decide)) (fun z => absurd z (by decide))
          obtain ⟨m7, l7, e7⟩ := t7
          have E7 := E6.pile m7
          have K7 := kp99 E6.1.2.1 m7
          have nd7 := E7.nod n
          refine (s_MM_finish (d := d) (V := V) (k := k) (c := c) (t := u 0) E7.2.1 (by omega) b1 (by rw [nd7.1]; exact b2) (by rw [nd7.1]; omega) (by rw [nd7.2.2.1]; exact b3) (E7.tnn b4.tn) (by omega) (by rw [nd7.1]; exact hty) (fun j hj => by rw [K7.2.1, K7.2.2]; exact o6 j hj) (by rw [K7.1]; exact v6) (by omega)).mono (fun M8 t8 => ⟨t8.1, ?_⟩)
          obtain ⟨-, y1, y2, y3, y4⟩ := t8
          have E8 := E7.step y1 (fun _ z => z.elim) (fun x hx => hx) y2
          have s8 := y1.lst (n99 (a := a)) (fun z => z)
          refine s_wo_f hX E8 (fun z => hQ M8 ?_)
          rcases y4 with y | ⟨w1, w2, w3⟩
          · exact absurd z y
          · refine ⟨E8, z, by rw [s8.1]; exact l7, fun j hj => by rw [s8.2.1, e7, e6 j (by omega), e5 j hj, e4], w2, fun j hj => ⟨by rw [(y3 j hj).1, K7.2.1, (k6 j hj).1, K5.2.1, K4.2.1], by rw [(y3 j hj).2, K7.2.2, (k6 j hj).2, K5.2.2, K4.2.2]⟩, fun j hj => ?_⟩
            have j0 : j = 0 := by omega
            subst j0
            exact w3
    · rw [if_neg c0] at ht
      have kkm : kk = md := by omega
      subst kkm
      by_cases c1 : kk = 1
      · subst c1
        rw [if_pos rfl] at ht
        exact ih f (by omega) 0 n e n0 e0 Lk V 1 u M2 hbR hbE (by omega) ht.2 hn0 he he0 h h16 lk pk hV hVb hLb hQ
      · rw [if_neg c1] at ht
        obtain ⟨m, q1, q2, q3⟩ := ht
        have l1 := q2.tn.lt
        have l2 := q3.tn.ge
        refine ih f (by omega) 0 n m n0 e0 (Lk + 2 * (kk - 1)) V 1 u M2 hbR hbE (by omega) q2 hn0 (by omega) he0 h h16 (by rw [lk]; omega) (fun j hj => ?_) hV (by omega) (by omega) (fun M3 h3 => ?_)
        · have j0 : j = 0 := by omega
          subst j0
          have := pk 0 (by omega)
          rw [show Lk + 2 * (kk - 1) + 2 * (1 - 1 - 0) = Lk + 2 * (kk - 1 - 0) by omega]
          exact this
        · obtain ⟨g1, g2, g3, g4, g5, g6, g7⟩ := h3
          refine ih f (by omega) (kk - 1) m e n0 e0 Lk (V + 1) (kk - 1) (fun j => u (j + 1)) M3 hbR hbE (by omega) q3 (by omega) he he0 g1 g2 g3 (fun j hj => ?_) g5 (by omega) (by omega) (fun M4 h4 => hQ M4 ?_)
          · have := pk (j + 1) (by omega)
            rw [ci_succ q1, show Lk + 2 * (kk - 1 - (j + 1)) = Lk + 2 * (kk - 1 - 1 - j) by omega] at this
            rw [g4 _ (by omega), g4 _ (by omega)]
            exact this
          · obtain ⟨f1, f2, f3, f4, f5, f6, f7⟩ := h4
            refine ⟨f1, f2, f3, fun j hj => by rw [f4 j hj, g4 j (by omega)], by rw [f5]; omega, fun j hj => ⟨by rw [(f6 j (by omega)).1, (g6 j hj).1], by rw [(f6 j (by omega)).2, (g6 j hj).2]⟩, fun j hj => ?_⟩
            cases j with
            | zero =>
              rw [(f6 (V + 0) (by omega)).1, (f6 (V + 0) (by omega)).2]
              exact g7 0 (by omega)
            | succ j =>
              have := f7 j (by omega)
              rw [show V + 1 + j = V + (j + 1) by omega] at this
              exact this
end WR
end
