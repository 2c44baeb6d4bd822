/-! The reference: way; the open command. -/
section WAY4
variable {G : mG} {d a g T R W C Z n L w w0 : Nat} {M M2 M3 M' : mM} {E : Nat → Nat} {tg mul Sm A D : Int} {B : Nat → Nat} {P S : Nat → Prop}
theorem s_MM_way {b c : Nat} {pl : Int} (h : wI M a g T R W C Z E tg n L w w0 mul Sm A D B b M) (ipl : i32 pl) (hc : c < C) (hbn : (b : Int) < mI M (g + 25) c) (hw0 : B L = w0) (hA : 0 < A ∧ A < 1000000000) (hD : 0 < D ∧ D < 1000000000) (hdm : D ∣ mul) (hle : Sm + A * (mul / D) ≤ mul) (hL : L ≤ 4096) : Cv G y_MM_way (d + 7) [vr a, vi c, vi b, vi pl] M (fun M' => mOk M' ∧ wyQ M a g T R W C Z E tg n L w w0 mul (Sm + A * (mul / D)) B M') := by
  obtain ⟨x1, gg, en, xd, op, cA, cD⟩ := id h
  have wd := gg.2.1
  have hg := gg.2.2.1.2
  have hD0 := gg.2.2.2.2.2.2.2.1
  have hBd := hD0.1
  have cc := hD0.2.2.2.2.1 c hc
  have hb : b < 8 := by have := cc.2.2.1; omega
  have bc := cc.2.2.2 b hbn
  obtain ⟨fs, hfs⟩ : ∃ fs : Nat, mI M (g + 28) (8 * c + b) = (fs : Int) := ⟨(mI M (g + 28) (8 * c + b)).toNat, by have := bc.2.1; omega⟩
  obtain ⟨mn, hmn⟩ : ∃ mn : Nat, mI M (g + 29) (8 * c + b) = (mn : Int) := ⟨(mI M (g + 29) (8 * c + b)).toNat, by have := bc.2.2.1; omega⟩
  have hfm : fs + mn ≤ Z := by have := bc.2.2.2; omega
  have g12 := gg.2.2.2.2.2.1.2.1
  have ib : i32 (b : Int) := i32s (by omega) (by omega)
  have ix : i32 ((8 * c + b : Nat) : Int) := i32s (by omega) (by omega)
  have b480 : ((0 : Int) ≤ ((8 * c + b : Nat) : Int) ∧ ((8 * c + b : Nat) : Int) < ((480 : Nat) : Int)) := by omega
  refine k_MM_way gg.1 (i32s (by omega) (by omega)) ib ipl ?_
  rw [show 8 * (c : Int) + (b : Int) = ((8 * c + b : Nat) : Int) by omega]
  suffices H : ∀ (t v : Nat) (M2 : mM), v + t = W → wI M a g T R W C Z E tg n L w w0 mul Sm A D B b M2 → mI M2 (a + 101) = mI M (a + 101) → (∀ v', v' < v → mI M2 (a + 21188) v' = mI M (a + 101) v') → h_MM_way_11 G (d + 6) a b pl (8 * c + b : Nat) v M2 (fun M' => mOk M' ∧ wyQ M a g T R W C Z E tg n L w w0 mul (Sm + A * (mul / D)) B M') from H W 0 M (by omega) h rfl (fun v' hv' => absurd hv' (by omega))
  intro t
  induction t with
  | zero =>
    intro v M2 hv h2 e101 hn
    have ev : v = W := by omega
    subst ev
    have gg2 := h2.2.1
    have w2 := gg2.2.1
    have gs := h2.1.gs wd hg
    have r28 : mI M2 (g + 28) (8 * c + b) = (fs : Int) := by rw [(gs.2.1 28 (by omega) (by omega)).1]; exact hfs
    refine k_MM_way_11 gg2.1 ib ipl ix (i32s (by omega) (by omega)) ⟨w2.1.1, ?_⟩
    rw [gg2.2.2.1.1, gg2.2.2.2.2.2.1.2.1, show mR M2 g 25 = g + 28 from (w2.gp hg).2.2.1.2.2.2.2.2.2.2.2.2.2.1, Int.toNat_natCast, r28]
    refine ⟨(w2.gp hg).1, fun _ => ⟨(w2.gp hg).2.2.2.2.2.2.2.2.2.2.2.1.1, by rw [(w2.gp hg).2.2.2.2.2.2.2.2.2.2.2.1.2]; exact b480, s_way59 gg ipl hb hc hfs hmn hfm hw0 hA hD hdm hle hL mn fs M2 (Nat.le_refl _) rfl h2 (fun _ v' hv' => ?_)⟩, fun q => absurd (Int.le_refl _) q⟩
    rw [(gs.2.1 19 (by omega) (by omega)).1, (gs.2.1 20 (by omega) (by omega)).1, hn v' hv']
    exact en.2 v' hv'
  | succ t ih =>
    intro v M2 hv h2 e101 hn
    have gg2 := h2.2.1
    have w2 := gg2.2.1
    have A1 : mK M2 (a + 101) = 30 ∧ mN M2 (a + 101) = 12 := w2.1.2.2.2.2.2.2.2.1.2.2.1
    have A8 : mK M2 (a + 21188) = 30 ∧ mN M2 (a + 21188) = 12 := w2.1.2.2.2.2.2.2.2.2.2.1.2.2.2.1
    have b12 : ((0 : Int) ≤ (v : Int) ∧ (v : Int) < ((12 : Nat) : Int)) := by omega
    refine k_MM_way_11 gg2.1 ib ipl ix (i32s (by omega) (by omega)) ⟨w2.1.1, ?_⟩
    rw [gg2.2.2.1.1, gg2.2.2.2.2.2.1.2.1, show mR M2 a 25 = a + 101 from w2.1.2.2.2.2.1.2.2.2.2.2.2.2.2.2.1, show mR M2 a 44 = a + 21188 from w2.1.2.2.2.2.2.2.1.2.2.2.1, Int.toNat_natCast, Int.toNat_natCast, e101]
    refine ⟨(w2.gp hg).1, fun q => absurd q (by omega), fun _ => ⟨A1.1, by rw [A1.2]; exact b12, A8.1, by rw [A8.2]; exact b12, fun M3 e3 => ?_⟩⟩
    obtain ⟨m3, f3, l3⟩ := mv_cell (gg.1 _ _).1 gg2.1 w2 (show a ≤ a + 21188 by omega) (offx (a := a) (o := 21188) (by decide)) e3
    have no : ∀ q : Nat, False → q ∈ nums a := fun _ z => z.elim
    have gs3 := gs_st w2 hg m3 no (fun _ z => z.elim) (fun x z => by omega)
    have en3 := h2.2.2.1.mv w2 m3 no gs3 (fun x z => by omega)
    have h3 := h2.st m3 (fun _ z => z.elim) (fun x z => Or.inr z) (fun i _ _ _ => by rw [(m3.fld w2 no (by omega)).1]) en3
    have nx := ih (v + 1) M3 (by omega) h3 (by rw [← e101]; exact (m3.cellL w2 no (offx (a := a) (o := 101) (by decide)) (by omega)).1) (fun v' hv' => ?_)
    · rw [show ((v + 1 : Nat) : Int) = (v : Int) + 1 by omega] at nx
      exact nx
    · rw [f3]
      by_cases y : v' = v
      · rw [if_pos ⟨rfl, y⟩, y]
      · rw [if_neg (fun z => y z.2)]
        exact hn v' (by omega)
/-- what exploring may change -/
abbrev xP (a : Nat) : Nat → Prop := fun q => q = a + 99 ∨ q = a + 109 ∨ q = a + 111 ∨ q = a + 113 ∨ q = a + 115
abbrev xS (a : Nat) : Nat → Prop := fun x => x = a ∨ (a + 97 ≤ x ∧ x ≤ a + 108) ∨ (a + 21185 ≤ x ∧ x ≤ a + 21190)
def xF (M : mM) (a : Nat) (M' : mM) : Prop := Mv (xP a) (xS a) M a M' ∧ ∀ i, i ≠ 16 → i ≠ 17 → i ≠ 23 → i ≠ 29 → i ≠ 40 → mI M' a i = mI M a i
theorem xP_in {q : Nat} (h : xP a q) : q ∈ nums a := by
  rcases h with h | h | h | h | h <;> rw [h]
  · exact n99
  · exact k109
  · exact k111
  · exact k113
  · exact k115
theorem xF.refl (o : mOk M) (w : Wd M a) : xF M a M := ⟨Mv.refl o w (fun q hq => w.lt (xP_in hq)), fun _ _ _ _ _ _ => rfl⟩
theorem xF.trans (h : xF M a M2) (k : xF M2 a M3) : xF M a M3 := ⟨h.1.trans k.1, fun i i1 i2 i3 i4 i5 => (k.2 i i1 i2 i3 i4 i5).trans (h.2 i i1 i2 i3 i4 i5)⟩
theorem xF.mk (w : Wd M a) (m : Mv P S M a M') (hP : ∀ q, P q → xP a q) (hS : ∀ x, S x → xS a x) (hf : ∀ i, i ≠ 16 → i ≠ 17 → i ≠ 23 → i ≠ 29 → i ≠ 40 → mI M' a i = mI M a i) : xF M a M' := ⟨m.mono hP hS (fun q hq => w.lt (xP_in hq)), hf⟩
theorem xe.xf (h : xe M a M') (w : Wd M a) : xF M a M' := xF.mk w h.1 (fun q hq => Or.inl hq) (fun x hx => by
  have hx' : x = a ∨ (a + 97 ≤ x ∧ x ≤ a + 98) ∨ (a + 102 ≤ x ∧ x ≤ a + 104) ∨ (a + 21188 ≤ x ∧ x ≤ a + 21190) := hx
  show x = a ∨ (a + 97 ≤ x ∧ x ≤ a + 108) ∨ (a + 21185 ≤ x ∧ x ≤ a + 21190)
  omega) (fun i i1 i2 i3 _ _ => h.2 i i1 i2 i3)
theorem wyF.xf (h : wyF M a M') (w : Wd M a) : xF M a M' := xF.mk w h.1 (fun q hq => by
  have hq' : q = a + 99 ∨ q = a + 113 := hq
  show q = a + 99 ∨ q = a + 109 ∨ q = a + 111 ∨ q = a + 113 ∨ q = a + 115
  omega) (fun x hx => by
  have := wyS_un hx
  show x = a ∨ (a + 97 ≤ x ∧ x ≤ a + 108) ∨ (a + 21185 ≤ x ∧ x ≤ a + 21190)
  omega) h.2
theorem xF.gs (h : xF M a M') (wd : Wd M a) (hg : g = a + 13 ∨ g = a + 49) : Gs M M' g :=
  gs_st wd hg h.1 (fun q hq => xP_in hq) (fun q hq z => by
    have z' : q = g + 1 ∨ q = g + 3 ∨ q = g + 5 ∨ q = g + 7 ∨ q = g + 9 ∨ q = g + 11 ∨ q = g + 30 ∨ q = g + 32 ∨ q = g + 34 := z
    have hq' : q = a + 99 ∨ q = a + 109 ∨ q = a + 111 ∨ q = a + 113 ∨ q = a + 115 := hq
    omega) (fun x hx => by
    have hx' : x = a ∨ (a + 97 ≤ x ∧ x ≤ a + 108) ∨ (a + 21185 ≤ x ∧ x ≤ a + 21190) := hx
    omega)
theorem wyF.tab (h : wyF M a M') (w : Wd M a) : mI M' (a + 106) = mI M (a + 106) ∧ mI M' (a + 107) = mI M (a + 107) ∧ mI M' (a + 108) = mI M (a + 108) ∧ mL M' (a + 21189) = mL M (a + 21189) ∧ mL M' (a + 21190) = mL M (a + 21190) := by
  have hin : ∀ q, wyP a q → q ∈ nums a := fun q hq => wyP_in hq
  have ns : ∀ o, o = 106 ∨ o = 107 ∨ o = 108 ∨ o = 21189 ∨ o = 21190 → ¬ wyS a (a + o) := fun o ho z => by have := wyS_un z; omega
  exact ⟨(h.1.cellL w hin (offx (a := a) (o := 106) (by decide)) (ns _ (by omega))).1, (h.1.cellL w hin (offx (a := a) (o := 107) (by decide)) (ns _ (by omega))).1, (h.1.cellL w hin (offx (a := a) (o := 108) (by decide)) (ns _ (by omega))).1, (h.1.cellL w hin (offx (a := a) (o := 21189) (by decide)) (ns _ (by omega))).2, (h.1.cellL w hin (offx (a := a) (o := 21190) (by decide)) (ns _ (by omega))).2⟩
theorem xe.tab (h : xe M a M') (w : Wd M a) : mI M' (a + 106) = mI M (a + 106) ∧ mI M' (a + 107) = mI M (a + 107) ∧ mI M' (a + 108) = mI M (a + 108) := by
  have ns : ∀ o, o = 106 ∨ o = 107 ∨ o = 108 → ¬ xE a (a + o) := fun o ho z => by
    have z' : a + o = a ∨ (a + 97 ≤ a + o ∧ a + o ≤ a + 98) ∨ (a + 102 ≤ a + o ∧ a + o ≤ a + 104) ∨ (a + 21188 ≤ a + o ∧ a + o ≤ a + 21190) := z
    omega
  exact ⟨(h.1.cellL w in99 (offx (a := a) (o := 106) (by decide)) (ns _ (by omega))).1, (h.1.cellL w in99 (offx (a := a) (o := 107) (by decide)) (ns _ (by omega))).1, (h.1.cellL w in99 (offx (a := a) (o := 108) (by decide)) (ns _ (by omega))).1⟩
end WAY4
