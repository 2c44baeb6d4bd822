/-! The reference: enabled, and a state. -/
section STA
variable {G : mG} {d a g T R W C Z n L w k : Nat} {M M2 M3 : mM} {E : Nat → Nat} {tg : Int} {B : Nat → Nat}
theorem s_MM_enabled {c : Nat} (h : GG M a g T R W C Z E tg) (hn : En M a g R W) (xd : XD M a g n W L w L B) (hw : B L = w) (z16 : mI M a 16 = 0) (hk5 : k < 512) (hk : 0 ≤ mI M (a + 108) k ∧ mI M (a + 108) k ≤ 5000) (hc : c < C) : Cv G y_MM_enabled (d + 8) [vr a, vi k, vi c] M (fun M' => mOk M' ∧ enQ M a g T R W C Z E tg n L k B M') := by
  have o := h.1
  have wd := h.2.1
  have hg := h.2.2.1.2
  have hD := h.2.2.2.2.2.2.2.1
  have hBd := hD.1
  have cc := hD.2.2.2.2.1 c hc
  obtain ⟨nb, hnb⟩ : ∃ nb : Nat, mI M (g + 25) c = (nb : Int) := ⟨(mI M (g + 25) c).toNat, by have := cc.2.1; omega⟩
  have b60 : ((0 : Int) ≤ (c : Int) ∧ (c : Int) < ((60 : Nat) : Int)) := by omega
  have b512 : ((0 : Int) ≤ (k : Int) ∧ (k : Int) < ((512 : Nat) : Int)) := by omega
  have A6 : mK M (a + 106) = 30 ∧ mN M (a + 106) = 512 := wd.1.2.2.2.2.2.2.2.2.1.2.1
  have ipl : i32 (mI M (g + 23) c) := (o _ _).1
  have eb0 : eB M a g T R W C Z E tg n L w B M := ⟨xF.refl o wd, h, hn, xd, rfl, rfl⟩
  refine k_MM_enabled o (i32s (by omega) (by omega)) (i32s (by omega) (by omega)) ⟨wd.1.1, ?_⟩
  rw [h.2.2.1.1, show mR M g 19 = g + 22 from (wd.gp hg).2.2.1.2.2.2.2.1, show mR M g 20 = g + 23 from (wd.gp hg).2.2.1.2.2.2.2.2.1, show mR M a 32 = a + 106 from wd.1.2.2.2.2.2.1.2.1, Int.toNat_natCast, Int.toNat_natCast]
  refine ⟨(wd.gp hg).1, (wd.gp hg).2.2.2.2.2.1.1, by rw [(wd.gp hg).2.2.2.2.2.1.2]; exact b60, fun v hv => ⟨(wd.gp hg).2.2.2.2.2.2.1.1, by rw [(wd.gp hg).2.2.2.2.2.2.1.2]; exact b60, A6.1, by rw [A6.2]; exact b512, fun _ => by rw [A6.2]; exact b512, fun _ => ⟨by rw [A6.2]; exact b512, fun M2 e2 => ?_⟩, fun _ => (s_MM_stop ⟨by decide, by decide⟩ ipl o wd).mono (fun M3 h3 => ⟨h3.1.1, h3.1.1, en_stop eb0 (by decide) h3⟩)⟩⟩
  have iv : i32 v := by rw [hv]; split <;> exact ⟨by decide, by decide⟩
  obtain ⟨m2, f2, l2⟩ := mv_cell iv o wd (show a ≤ a + 106 by omega) (offx (a := a) (o := 106) (by decide)) e2
  have no : ∀ q : Nat, False → q ∈ nums a := fun _ z => z.elim
  have w2 := m2.2.1
  have aI := (m2.fld wd no (by omega)).1
  have F2 : xF M a M2 := xF.mk wd m2 (fun _ z => z.elim) (fun x z => Or.inr (Or.inl (by omega))) (fun i _ _ _ _ _ => by rw [aI])
  have gs2 := F2.gs wd hg
  have gg2 := h.gs m2.1 w2 (by rw [m2.rfl_a wd no]) gs2
  have en2 := hn.mv wd m2 no gs2 (fun x z => by omega)
  have xd2 := xd.mv wd m2 no (fun _ z => z.elim) (fun x z => by omega) gs2 (by rw [aI]) (by rw [aI])
  have c7 := (m2.cellL wd no (offx (a := a) (o := 107) (by decide)) (by omega)).1
  have c8 := (m2.cellL wd no (offx (a := a) (o := 108) (by decide)) (by omega)).1
  refine (s_MM_chances (d := d + 1) gg2 en2 hc ipl (by rw [(gs2.2.1 25 (by omega) (by omega)).1]; exact hnb)).mono (fun mul M3 t3 => ?_)
  obtain ⟨i3, o3, -, ⟨x3, gg3, en3⟩, v3⟩ := t3
  have w3 := gg3.2.1
  have gs3 := x3.gs w2 hg
  have un : ∀ x, xE a x → x = a ∨ (a + 97 ≤ x ∧ x ≤ a + 98) ∨ (a + 102 ≤ x ∧ x ≤ a + 104) ∨ (a + 21188 ≤ x ∧ x ≤ a + 21190) := fun x hx => hx
  have xd3 := xd2.mv w2 x3.1 in99 (fun q hq => by omega) (fun x hx => by have := un x hx; omega) gs3 (x3.2 29 (by decide) (by decide) (by decide)) (x3.2 40 (by decide) (by decide) (by decide))
  have tb := x3.tab w2
  have eb3 : eB M a g T R W C Z E tg n L w B M3 := ⟨F2.trans (x3.xf w2), gg3, en3, xd3, by rw [tb.2.1]; exact c7, by rw [tb.2.2]; exact c8⟩
  refine ⟨i3, o3, w3.1.1, fun z3 => ?_, fun z3 => ⟨o3, eb3.1, gg3, en3, eb3.2.2.2.2.1, fun k' _ => by rw [eb3.2.2.2.2.2], Or.inl z3⟩⟩
  rcases v3 with y | ⟨-, u1, u2, u3, u4⟩
  · exact absurd z3 y
  · exact s_en87 h eb3 z3 hw hk5 hk hc hnb ipl ⟨u2, u3⟩ u1 u4 nb 0 (by omega)
/-- a state's commands so far -/
def sI (M : mM) (a g T R W C Z : Nat) (E : Nat → Nat) (tg : Int) (n L k : Nat) (B : Nat → Nat) (M2 : mM) : Prop := xF M a M2 ∧ GG M2 a g T R W C Z E tg ∧ En M2 a g R W ∧ (mI M2 a 16 = 0 → (mI M2 (a + 107) k = (L : Int) ∧ (∀ k', k' ≠ k → mI M2 (a + 107) k' = mI M (a + 107) k' ∧ mI M2 (a + 108) k' = mI M (a + 108) k')) ∧ ∃ (n2 L2 w2 : Nat) (B2 : Nat → Nat), n ≤ n2 ∧ L ≤ L2 ∧ mI M2 (a + 108) k = ((L2 - L : Nat) : Int) ∧ (∀ i, i ≤ L → B2 i = B i) ∧ B2 L2 = w2 ∧ XD M2 a g n2 W L2 w2 L2 B2)
theorem s_st72 (hk5 : k < 512) : ∀ (t c : Nat) (M2 : mM), c + t = C → sI M a g T R W C Z E tg n L k B M2 → h_MM_state0_72 G (d + 8) a k c M2 (fun M' => mOk M' ∧ sI M a g T R W C Z E tg n L k B M') := by
  intro t
  induction t with
  | zero =>
    intro c M2 hc h
    have ec : c = C := by omega
    subst ec
    obtain ⟨x1, gg, en, hh⟩ := id h
    have w2 := gg.2.1
    have hg := gg.2.2.1.2
    have hBd := gg.2.2.2.2.2.2.2.1.1
    refine k_MM_state0_72 gg.1 (i32s (by omega) (by omega)) (i32s (by omega) (by omega)) ⟨w2.1.1, ?_⟩
    rw [gg.2.2.1.1, gg.2.2.2.2.2.1.2.2.1]
    exact ⟨(w2.gp hg).1, fun _ => ⟨gg.1, h⟩, fun q => absurd (Or.inl (Int.le_refl _)) q⟩
  | succ t ih =>
    intro c M2 hc h
    obtain ⟨x1, gg, en, hh⟩ := id h
    have w2 := gg.2.1
    have hg := gg.2.2.1.2
    have hD := gg.2.2.2.2.2.2.2.1
    have hBd := hD.1
    have cc := hD.2.2.2.2.1 c (by omega)
    have b60 : ((0 : Int) ≤ (c : Int) ∧ (c : Int) < ((60 : Nat) : Int)) := by omega
    refine k_MM_state0_72 gg.1 (i32s (by omega) (by omega)) (i32s (by omega) (by omega)) ⟨w2.1.1, ?_⟩
    rw [gg.2.2.1.1, gg.2.2.2.2.2.1.2.2.1, show mR M2 g 21 = g + 24 from (w2.gp hg).2.2.1.2.2.2.2.2.2.1, Int.toNat_natCast]
    refine ⟨(w2.gp hg).1, fun q => ⟨gg.1, h⟩, fun q => ⟨(w2.gp hg).2.2.2.2.2.2.2.1.1, by rw [(w2.gp hg).2.2.2.2.2.2.2.1.2]; exact b60, (s_MM_reach (d := d + 3) gg en cc.1).mono (fun M3 t3 => ?_)⟩⟩
    have z2 : mI M2 a 16 = 0 := Classical.byContradiction (fun z => q (Or.inr z))
    obtain ⟨⟨t1, t2⟩, n2, L2, w2', B2, y1, y2, y3, y4, y5, y6⟩ := hh z2
    obtain ⟨o3, xr3, gg3, en3, v3⟩ := t3
    have x3 := xr3.xe w2
    have w3 := gg3.2.1
    have gs3 := x3.gs w2 hg
    have tb := x3.tab w2
    have un : ∀ x, xE a x → x = a ∨ (a + 97 ≤ x ∧ x ≤ a + 98) ∨ (a + 102 ≤ x ∧ x ≤ a + 104) ∨ (a + 21188 ≤ x ∧ x ≤ a + 21190) := fun x hx => hx
    have xd3 := y6.mv w2 x3.1 in99 (fun q hq => by omega) (fun x hx => by have := un x hx; omega) gs3 (x3.2 29 (by decide) (by decide) (by decide)) (x3.2 40 (by decide) (by decide) (by decide))
    have s3 : sI M a g T R W C Z E tg n L k B M3 := ⟨x1.trans (x3.xf w2), gg3, en3, fun _ => ⟨by rw [tb.2.1, tb.2.2]; exact ⟨t1, t2⟩, n2, L2, w2', B2, y1, y2, by rw [tb.2.2]; exact y3, y4, y5, xd3⟩⟩
    have A7 : mK M3 (a + 97) = 33 ∧ mN M3 (a + 97) = 16400 := w3.1.2.2.2.2.2.2.2.1.1
    rw [show mR M3 a 21 = a + 97 from w3.1.2.2.2.2.1.2.2.2.2.2.2.1]
    rw [show (c : Int) + 1 = ((c + 1 : Nat) : Int) by omega]
    refine ⟨o3, w3.1.1, fun _ => ⟨A7.1, by rw [A7.2]; decide⟩, fun q3 => ?_, fun _ => ih (c + 1) M3 (by omega) s3⟩
    have hL2 := xd3.le
    refine (s_MM_enabled (d := d) (k := k) (c := c) gg3 en3 xd3 y5 q3.1 hk5 (by rw [tb.2.2, y3]; omega) (by omega)).mono (fun M4 t4 => ⟨t4.1, ih (c + 1) M4 (by omega) ?_⟩)
    obtain ⟨-, x4, gg4, en4, k7, k8, v4⟩ := t4
    refine ⟨s3.1.trans x4, gg4, en4, fun z4 => ?_⟩
    rcases v4 with y | ⟨-, u1, n4, w4, B4, u2, u3, u4, u5⟩
    · exact absurd z4 y
    · refine ⟨⟨by rw [k7, tb.2.1]; exact t1, fun k' hk' => ⟨by rw [k7, tb.2.1]; exact (t2 k' hk').1, by rw [k8 k' hk', tb.2.2]; exact (t2 k' hk').2⟩⟩, n4, L2 + 1, w4, B4, by omega, by omega, by rw [u1, tb.2.2, y3]; omega, fun i hi => by rw [u3 i (by omega)]; exact y4 i hi, u4, u5⟩
end STA
