/-! The reference: what working out may change. -/
section EO
variable {G : mG} {F : Prop} {d a g R W T V X n : Nat} {M M2 M3 M4 : mM} {P S : Nat → Prop}
/-- the game's rules and variables, and where the variables stand -/
def gsame (M : mM) (a g : Nat) (M3 : mM) : Prop := mI M3 (g + 13) = mI M (g + 13) ∧ mI M3 (g + 14) = mI M (g + 14) ∧ mI M3 (g + 15) = mI M (g + 15) ∧ mI M3 (g + 18) = mI M (g + 18) ∧ mL M3 (g + 16) = mL M (g + 16) ∧ mL M3 (g + 17) = mL M (g + 17) ∧ mI M3 (a + 101) = mI M (a + 101)
abbrev woS (a : Nat) : Nat → Prop := fun x => x = a ∨ x = a + 97 ∨ x = a + 98 ∨ x = a + 102 ∨ x = a + 103 ∨ x = a + 104
theorem gs_mv (hg : g = a + 13 ∨ g = a + 49) (w : Wd M a) (m : Mv P S M a M3) (hin : ∀ q, P q → q ∈ nums a) (hS : ∀ x, S x → woS a x) : gsame M a g M3 := by
  have no : ∀ i, 13 ≤ i → i ≤ 18 → ¬ S (g + i) := fun i i1 i2 z => by
    have : g + i = a ∨ g + i = a + 97 ∨ g + i = a + 98 ∨ g + i = a + 102 ∨ g + i = a + 103 ∨ g + i = a + 104 := hS _ z
    omega
  have c13 := m.cellL w hin (goffx (i := 13) hg (by decide) (by decide)) (no 13 (by omega) (by omega))
  have c14 := m.cellL w hin (goffx (i := 14) hg (by decide) (by decide)) (no 14 (by omega) (by omega))
  have c15 := m.cellL w hin (goffx (i := 15) hg (by decide) (by decide)) (no 15 (by omega) (by omega))
  have c16 := m.cellL w hin (goffx (i := 16) hg (by decide) (by decide)) (no 16 (by omega) (by omega))
  have c17 := m.cellL w hin (goffx (i := 17) hg (by decide) (by decide)) (no 17 (by omega) (by omega))
  have c18 := m.cellL w hin (goffx (i := 18) hg (by decide) (by decide)) (no 18 (by omega) (by omega))
  have c101 := m.cellL w hin (offx (a := a) (o := 101) (by decide)) (fun z => by
    have : a + 101 = a ∨ a + 101 = a + 97 ∨ a + 101 = a + 98 ∨ a + 101 = a + 102 ∨ a + 101 = a + 103 ∨ a + 101 = a + 104 := hS _ z
    omega)
  exact ⟨c13.1, c14.1, c15.1, c18.1, c16.2, c17.2, c101.1⟩
theorem gsame.tyn (h : gsame M a g M3) : tn M3 g = tn M g := by
  funext v
  unfold tn
  rw [h.2.1, h.2.2.2.1]
theorem Ev.step (h : Ev F M a g R W T) (m : Mv P S M a M3) (hP : ∀ q, P q → q = a + 99) (hS : ∀ x, S x → vS a x) : Ev F M3 a g R W T := by
  obtain ⟨hO, w, hg, hd, hB, hr, hw⟩ := h
  have hin : ∀ q, P q → q ∈ nums a := fun q hq => by rw [hP q hq]; exact n99
  have hS' : ∀ x, S x → woS a x := fun x z => by
    have : x = a ∨ x = a + 97 ∨ x = a + 98 := hS _ z
    show x = a ∨ x = a + 97 ∨ x = a + 98 ∨ x = a + 102 ∨ x = a + 103 ∨ x = a + 104
    omega
  have gs := gs_mv hg w m hin hS'
  have no : ∀ i, 102 ≤ i → i ≤ 104 → ¬ S (a + i) := fun i i1 i2 z => by
    have : a + i = a ∨ a + i = a + 97 ∨ a + i = a + 98 := hS _ z
    omega
  have c102 := (m.cellL w hin (offx (a := a) (o := 102) (by decide)) (no 102 (by omega) (by omega))).1
  have c103 := (m.cellL w hin (offx (a := a) (o := 103) (by decide)) (no 103 (by omega) (by omega))).2
  have c104 := (m.cellL w hin (offx (a := a) (o := 104) (by decide)) (no 104 (by omega) (by omega))).2
  have gt := gs.tyn
  obtain ⟨g13, g14, g15, g18, g16, g17, g101⟩ := gs
  refine ⟨m.1, m.2.1, hg, fun q hq => ?_, hB, ?_, ?_⟩
  · have hq' : q = g + 1 ∨ q = g + 3 ∨ q = g + 5 ∨ q = g + 7 ∨ q = g + 9 ∨ q = g + 11 := hq
    rw [(m.lst (tL_in hg hq) (fun z => by have := hP q z; omega)).1]
    exact hd q hq
  · rw [gt, g13, g16, g17, c102, c103, c104]
    exact hr
  · rw [gt, g18, g101]
    exact hw
/-- so far, working out has changed only what it may -/
def EO (F : Prop) (M : mM) (a g R W T : Nat) (M3 : mM) : Prop := Mv (fun x => x = a + 99) (woS a) M a M3 ∧ Ev F M3 a g R W T ∧ ∀ i, i ≠ 16 → i ≠ 17 → i ≠ 23 → mI M3 a i = mI M a i
theorem lt99 (w : Wd M a) : ∀ q, q = a + 99 → q < mZ M := fun q hq => by rw [hq]; exact w.lt n99
theorem EO.refl (h : Ev F M a g R W T) : EO F M a g R W T M := ⟨Mv.refl h.1 h.2.1 (lt99 h.2.1), h, fun _ _ _ _ => rfl⟩
theorem EO.step (h : EO F M a g R W T M2) (m : Mv P S M2 a M3) (hP : ∀ q, P q → q = a + 99) (hS : ∀ x, S x → vS a x) (hf : ∀ i, i ≠ 16 → i ≠ 17 → i ≠ 23 → mI M3 a i = mI M2 a i) : EO F M a g R W T M3 := by
  refine ⟨h.1.trans (m.mono hP (fun x hx => ?_) (lt99 h.1.2.1)), h.2.1.step m hP hS, fun i i1 i2 i3 => (hf i i1 i2 i3).trans (h.2.2 i i1 i2 i3)⟩
  have : x = a ∨ x = a + 97 ∨ x = a + 98 := hS _ hx
  show x = a ∨ x = a + 97 ∨ x = a + 98 ∨ x = a + 102 ∨ x = a + 103 ∨ x = a + 104
  omega
theorem EO.gs (w : Wd M a) (h : EO F M a g R W T M3) : gsame M a g M3 :=
  gs_mv h.2.1.2.2.1 w h.1 (fun q hq => by rw [hq]; exact n99) (fun x hx => hx)
theorem EO.nod (h : EO F M a g R W T M3) : ∀ n, so M3 g n = so M g n ∧ va M3 g n = va M g n ∧ fp M3 g n = fp M g n ∧ np M3 g n = np M g n := by
  have hg := h.2.1.2.2.1
  intro n
  exact ⟨(h.1.lst (tL_in (q := g + 1) hg (tLk1 g)) (by omega)).2.1 n, (h.1.lst (tL_in (q := g + 7) hg (tLk7 g)) (by omega)).2.1 n, (h.1.lst (tL_in (q := g + 9) hg (tLk9 g)) (by omega)).2.1 n, (h.1.lst (tL_in (q := g + 11) hg (tLk11 g)) (by omega)).2.1 n⟩
theorem EO.tnn {nm : Int → Prop} {f md n e : Nat} (h : EO F M a g R W T M3) (t : Tn nm M g f md n e) : Tn nm M3 g f md n e :=
  t.fr (fun k _ _ => ⟨(h.nod k).1, (h.nod k).2.1, (h.nod k).2.2.1⟩) (fun k _ _ => (h.nod k).2.2.2) (fun _ => (h.nod n).2.2.2)
/-- a step of the pile alone -/
theorem kp99 (w : Wd M2 a) (m : Mv (fun x => x = a + 99) (fun _ => False) M2 a M3) : mI M3 a = mI M2 a ∧ mL M3 (a + 97) = mL M2 (a + 97) ∧ mL M3 (a + 98) = mL M2 (a + 98) := by
  have hin : ∀ q, q = a + 99 → q ∈ nums a := fun q hq => by rw [hq]; exact n99
  exact ⟨(m.fld w hin (fun z => z)).1, (m.cellL w hin (offx (a := a) (o := 97) (by decide)) (fun z => z)).2, (m.cellL w hin (offx (a := a) (o := 98) (by decide)) (fun z => z)).2⟩
theorem EO.pile (h : EO F M a g R W T M2) (m : Mv (fun x => x = a + 99) (fun _ => False) M2 a M3) : EO F M a g R W T M3 :=
  h.step m (fun q hq => hq) (fun x hx => hx.elim) (fun i _ _ _ => by rw [(kp99 h.1.2.1 m).1])
theorem vok_i64 {t A B : Int} (h : vok t A B) : i64 A ∧ i64 B := by
  unfold vok at h
  exact ⟨⟨by omega, by omega⟩, ⟨by omega, by omega⟩⟩
/-- a formula's value is kept -/
theorem EO.met {r : Nat} {A B : Int} {M5 M6 : mM} (w0 : Wd M a) (h : EO F M a g R W T M3) (hv : vok (tn M g r) A B) (e4 : M4 = mUI M3 (a + 102) r 1) (e5 : M5 = mUL M4 (a + 103) r A) (e6 : M6 = mUL M5 (a + 104) r B) : EO F M a g R W T M6 ∧ mI M6 a = mI M3 a ∧ sameN M3 M6 (a + 99) ∧ mL M6 (a + 97) = mL M3 (a + 97) ∧ mL M6 (a + 98) = mL M3 (a + 98) := by
  have w3 := h.1.2.1
  have gs := h.gs w0
  obtain ⟨hA, hB⟩ := vok_i64 hv
  have o102 := offx (a := a) (o := 102) (by decide)
  have f4 : FI (fun x => x = a + 102) M3 M4 := by rw [e4]; exact FI.ui rfl
  have m4 : Mv (fun _ => False) (fun x => x = a + 102) M3 a M4 := mv_fi (by rw [e4]; exact mOk_UI h.1.1 ⟨by decide, by decide⟩) w3 f4 (fun x z => by rw [z]; exact ⟨by omega, by omega, o102.2.1, o102.2.2⟩)
  obtain ⟨m5, l5, i5⟩ := mv_ul hA m4.1 m4.2.1 e5
  obtain ⟨m6, l6, i6⟩ := mv_ul hB m5.1 m5.2.1 e6
  have no : ∀ q : Nat, False → q = a + 99 := fun _ z => z.elim
  have mm : Mv (fun x => x = a + 99) (woS a) M3 a M6 := ((m4.mono no (fun x z => Or.inr (Or.inr (Or.inr (Or.inl z)))) (lt99 w3)).trans (m5.mono no (fun x z => Or.inr (Or.inr (Or.inr (Or.inr (Or.inl z))))) (lt99 m4.2.1))).trans (m6.mono no (fun x z => Or.inr (Or.inr (Or.inr (Or.inr (Or.inr z))))) (lt99 m5.2.1))
  have iI : ∀ x, x ≠ a + 102 → mI M6 x = mI M3 x := fun x hx => by rw [i6, i5]; exact f4.2.2.2.2.2.2 x hx
  have lM4 : mL M4 = mL M3 := f4.2.2.2.1
  have lL : ∀ x, x ≠ a + 103 → x ≠ a + 104 → mL M6 x = mL M3 x := fun x h1 h2 => by
    funext k
    rw [l6, if_neg (fun z => h2 z.1), l5, if_neg (fun z => h1 z.1), lM4]
  have s99 : sameN M3 M6 (a + 99) := ((m4.lst n99 (fun z => z)).trans (m5.lst n99 (fun z => z))).trans (m6.lst n99 (fun z => z))
  obtain ⟨hO, w, hg, hd, hBd, hr, hw⟩ := id h.2.1
  have gs6 := gs_mv hg w3 mm (fun q hq => by rw [hq]; exact n99) (fun x hx => hx)
  have gt := gs6.tyn
  have gt3 := gs.tyn
  refine ⟨⟨h.1.trans mm, ⟨m6.1, m6.2.1, hg, fun q hq => ?_, hBd, ?_, ?_⟩, fun i i1 i2 i3 => by rw [iI a (by omega)]; exact h.2.2 i i1 i2 i3⟩, iI a (by omega), s99, lL _ (by omega) (by omega), lL _ (by omega) (by omega)⟩
  · have hq' : q = g + 1 ∨ q = g + 3 ∨ q = g + 5 ∨ q = g + 7 ∨ q = g + 9 ∨ q = g + 11 := hq
    rw [(mm.lst (tL_in hg hq) (by omega)).1]
    exact hd q hq
  · obtain ⟨g13, g14, g15, g18, g16, g17, g101⟩ := gs6
    rw [gt, g13, g16, g17]
    intro r' hr'
    refine ⟨(hr r' hr').1, fun hF q1 q2 => ?_⟩
    by_cases z : r' = r
    · rw [l6, l5, l6, if_neg (fun y => by omega), if_pos ⟨rfl, z⟩, if_pos ⟨rfl, z⟩, z, gt3]
      exact hv
    · rw [l6, l5, l6, l5, if_neg (fun y => z y.2), if_neg (fun y => z y.2), if_neg (fun y => z y.2), if_neg (fun y => z y.2), lM4]
      rw [i6, i5, e4, mI_UI, if_neg (fun y => z y.2)] at q2
      exact (hr r' hr').2 hF q1 q2
  · obtain ⟨g13, g14, g15, g18, g16, g17, g101⟩ := gs6
    rw [gt, g18, g101]
    exact hw
end EO
