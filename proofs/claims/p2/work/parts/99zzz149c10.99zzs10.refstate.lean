section
/-! The reference: a state is explored, exactly. -/
section STX
variable {G : mG} {d a g T R W C Z n L w k : Nat} {M M' M2 M3 : mM} {E : Eg9} {tg : Int} {B : Nat → Nat} {P S : Nat → Prop} {ww pl lo hi : Nat → Int} {XV : List Int → Int → vrs} {ev : List Int → Nat → Nat → vrs} {cvS : List Int → Nat → vrs} {stp : List Int → List (Nat × Nat × Nat × Nat) → (Int × Int) × List Int} {tgI : Nat × Nat} {cms : List cm9} {sg : List Int}
theorem GQr.mv {L0 : Nat} {T9 : xt9} {s : sl9} (h : GQr M a W k L0 T9 s) (hW : W ≤ 12) (w : Wd M a) (m : Mv P S M a M') (hin : ∀ q, P q → q ∈ nums a) (hP : ∀ q, P q → q ≠ a + 109 ∧ q ≠ a + 111 ∧ q ≠ a + 113 ∧ q ≠ a + 115) (hS : ∀ x, S x → ¬ ((a + 105 ≤ x ∧ x ≤ a + 108) ∨ (a + 21185 ≤ x ∧ x ≤ a + 21187))) (f29 : mI M' a 29 = mI M a 29) (f40 : mI M' a 40 = mI M a 40) : GQr M' a W k L0 T9 s := by
  obtain ⟨i1, i2, i3, i4, i5, i6, L2, w9, i7, i8, i9, i10, i11, i12, i13⟩ := h
  have c : ∀ o, frO o → (o = 105 ∨ o = 106 ∨ o = 107 ∨ o = 108 ∨ o = 21185 ∨ o = 21186 ∨ o = 21187) → mI M' (a + o) = mI M (a + o) ∧ mL M' (a + o) = mL M (a + o) := fun o fo ho => m.cellL w hin (offx fo) (fun z => hS _ z (by omega))
  have c5 := (c 105 (by decide) (by omega)).1
  have c6 := (c 106 (by decide) (by omega)).1
  have c7 := (c 107 (by decide) (by omega)).1
  have c8 := (c 108 (by decide) (by omega)).1
  have c85 := (c 21185 (by decide) (by omega)).1
  have c86 := (c 21186 (by decide) (by omega)).2
  have c87 := (c 21187 (by decide) (by omega)).2
  have l9 := m.lst (k109 (a := a)) (fun z => (hP _ z).1 rfl)
  have l11 := m.lst (k111 (a := a)) (fun z => (hP _ z).2.1 rfl)
  have l13 := m.lst (k113 (a := a)) (fun z => (hP _ z).2.2.1 rfl)
  have l15 := m.lst (k115 (a := a)) (fun z => (hP _ z).2.2.2 rfl)
  have cm : ∀ i, cmQ M' a i = cmQ M a i := fun i => by
    unfold cmQ
    rw [show nt M' (a + 109) = nt M (a + 109) from funext (fun j => l9.2.1 j), show nt M' (a + 111) = nt M (a + 111) from funext (fun j => l11.2.1 j), show nt M' (a + 113) = nt M (a + 113) from funext (fun j => l13.2.1 j), show nt M' (a + 115) = nt M (a + 115) from funext (fun j => l15.2.1 j), brR_cg (M := M) (M' := M') (fun _ _ _ => by rw [c85, c86, c87]; exact ⟨rfl, rfl, rfl⟩)]
  exact ⟨i1, by rw [f29]; exact i2, by rw [SmR_cg (M := M) hW (fun j _ => by rw [c5])]; exact i3, by rw [← i4]; exact xtR_cg (L := L0) (fun k' _ => by rw [c6]) (fun k' _ => by rw [c7, c8]; exact ⟨rfl, rfl⟩) i6 (fun i _ => cm i), by rw [c6]; exact i5, by rw [c7, c8]; exact i6, L2, w9, by rw [c7]; exact i7, by rw [c8]; exact i8, by rw [l9.1]; exact i9, by rw [f40]; exact i10, by rw [cmL_cg (M := M) (fun i _ _ => cm i)]; exact i11, i12, fun j hj => by rw [c86, c87]; exact i13 j hj⟩
theorem x_st72 {RS : sl9} {T9 : xt9} (hev : ∀ sg i j, ev sg i j = vlq ww (cvS sg) pl 0 0 i j) (hstp : ∀ sg l, stp sg l = ((stq9 ww (cvS sg) pl lo hi l (fun v => sg.getD v 0)).1, (List.range W).map (stq9 ww (cvS sg) pl lo hi l (fun v => sg.getD v 0)).2)) (h0 : GG M a g T R W C Z E tg) (hp : GP ww pl XV ev M g R W C T E tgI cms lo hi) (hok : GOk ev cms sg) (hk5 : k < 512) : ∀ (t c : Nat) (M2 : mM), c + t = C → sI M a g T R W C Z E tg n L k B M2 → (mI M2 a 16 = 0 → ∃ s9, GQr M2 a W k L T9 s9 ∧ XVq M2 a g R W (XV sg) ∧ (∀ v, v < W → mI M2 (a + 101) v = sg.getD v 0) ∧ RS = tsq9 ev stp sg (nbx9 T9) (cms.drop c) c s9) → (mI M2 a 16 ≠ 0 → RS.1 = (mI M2 a 16, mI M2 a 17)) → h_MM_state0_72 G (d + 8) a k c M2 (fun M' => mOk M' ∧ sI M a g T R W C Z E tg n L k B M' ∧ eyX RS T9 a W k L (XV sg) g R sg M') := by
  have hR := h0.2.2.2.2.2.2.2.1.1.1
  have hW12 := h0.2.2.2.2.2.2.2.1.1.2.1
  have hlen := hp.2.2.2.2.2.1
  intro t
  induction t with
  | zero =>
    intro c M2 hc h hz hf
    have ec : c = C := by omega
    subst ec
    obtain ⟨x1, gg, en, hh⟩ := id h
    have w2 := gg.2.1
    have hg := gg.2.2.1.2
    have hBd := gg.2.2.2.2.2.2.2.1.1
    refine k_MM_state0_72 gg.1 (i32s (by omega) (by omega)) (i32s (by omega) (by omega)) ⟨w2.1.1, ?_⟩
    rw [gg.2.2.1.1, gg.2.2.2.2.2.1.2.2.1]
    refine ⟨(w2.gp hg).1, fun _ => ⟨gg.1, h, ?_⟩, fun q => absurd (Or.inl (Int.le_refl _)) q⟩
    by_cases z : mI M2 a 16 = 0
    · obtain ⟨s9, z1, z2, z3, z4⟩ := hz z
      rw [List.drop_eq_nil_of_le (by omega)] at z4
      have z4 : RS = s9 := z4
      rw [z4]
      exact Or.inr ⟨z, z1, z2, z3⟩
    · exact Or.inl ⟨z, hf z⟩
  | succ t ih =>
    intro c M2 hc h hz hf
    obtain ⟨x1, gg, en, hh⟩ := id h
    have w2 := gg.2.1
    have hg := gg.2.2.1.2
    have hD := gg.2.2.2.2.2.2.2.1
    have hBd := hD.1
    have cc := hD.2.2.2.2.1 c (by omega)
    have b60 : ((0 : Int) ≤ (c : Int) ∧ (c : Int) < ((60 : Nat) : Int)) := by omega
    refine k_MM_state0_72 gg.1 (i32s (by omega) (by omega)) (i32s (by omega) (by omega)) ⟨w2.1.1, ?_⟩
    rw [gg.2.2.1.1, gg.2.2.2.2.2.1.2.2.1, show mR M2 g 21 = g + 24 from (w2.gp hg).2.2.1.2.2.2.2.2.2.1, Int.toNat_natCast]
    have gs02 : Gs M M2 g := x1.gs h0.2.1 hg
    have hp2 := hp.gs gs02 hR
    obtain ⟨cm, hcm⟩ : ∃ cm : cm9, cms[c]? = some cm := ⟨_, List.getElem?_eq_getElem (by omega)⟩
    have rc := hp2.2.2.2.2.2.2 c cm hcm
    have dq : cms.drop c = cm :: cms.drop (c + 1) := by
      obtain ⟨hl, he⟩ := List.getElem?_eq_some_iff.mp hcm
      rw [List.drop_eq_getElem_cons hl, he]
    refine ⟨(w2.gp hg).1, fun q => ⟨gg.1, h, ?_⟩, fun q => ?_⟩
    · have z2 : mI M2 a 16 ≠ 0 := by
        rcases q with q | q
        · omega
        · exact q
      exact Or.inl ⟨z2, hf z2⟩
    have z2 : mI M2 a 16 = 0 := Classical.byContradiction (fun z => q (Or.inr z))
    obtain ⟨s9, zg, zx, zs, zr⟩ := hz z2
    rw [dq, tsq_c zg.1] at zr
    refine ⟨(w2.gp hg).2.2.2.2.2.2.2.1.1, by rw [(w2.gp hg).2.2.2.2.2.2.2.1.2]; exact b60, (x_MM_reach (d := d + 3) gg en hp2.1 zx rc.2.2.1 z2).mono (fun M3 t3 => ?_)⟩
    obtain ⟨⟨t1, t2⟩, n2, L2, w2', B2, y1, y2, y3, y4, y5, y6⟩ := hh z2
    obtain ⟨o3, ⟨xr3, gg3, en3, v3⟩, u3⟩ := t3
    have x3 := xr3.xe w2
    have w3 := gg3.2.1
    have gs3 := x3.gs w2 hg
    have tb := x3.tab w2
    have un : ∀ x, xE a x → x = a ∨ (a + 97 ≤ x ∧ x ≤ a + 98) ∨ (a + 102 ≤ x ∧ x ≤ a + 104) ∨ (a + 21188 ≤ x ∧ x ≤ a + 21190) := fun x hx => hx
    have xd3 := y6.mv w2 x3.1 in99 (fun q hq => by omega) (fun x hx => by have := un x hx; omega) gs3 (x3.2 29 (by decide) (by decide) (by decide)) (x3.2 40 (by decide) (by decide) (by decide))
    have s3 : sI M a g T R W C Z E tg n L k B M3 := ⟨x1.trans (x3.xf w2), gg3, en3, fun _ => ⟨by rw [tb.2.1, tb.2.2]; exact ⟨t1, t2⟩, n2, L2, w2', B2, y1, y2, by rw [tb.2.2]; exact y3, y4, y5, xd3⟩⟩
    have A7 : mK M3 (a + 97) = 33 ∧ mN M3 (a + 97) = 16400 := w3.1.2.2.2.2.2.2.2.1.1
    rw [show mR M3 a 21 = a + 97 from w3.1.2.2.2.2.1.2.2.2.2.2.2.1]
    rw [show (c : Int) + 1 = ((c + 1 : Nat) : Int) by omega]
    have zg3 : GQr M3 a W k L T9 s9 := zg.mv hW12 w2 x3.1 in99 (fun q hq => by omega) (fun x hx => by have := un x hx; omega) (x3.2 29 (by decide) (by decide) (by decide)) (x3.2 40 (by decide) (by decide) (by decide))
    have zs3 : ∀ v, v < W → mI M3 (a + 101) v = sg.getD v 0 := fun v hv => by
      rw [(x3.1.cellL w2 in99 (offx (a := a) (o := 101) (by decide)) (fun z => by have := un _ z; omega)).1]
      exact zs v hv
    have gv : mI M3 a 16 = 0 → (ev sg cm.2.2.1.1 cm.2.2.1.2 = (0, mL M3 (a + 97) 0, 1) ∧ XVq M3 a g R W (XV sg)) ∧ (mL M3 (a + 97) 0 = 0 ∨ mL M3 (a + 97) 0 = 1) := fun z => by
      rcases u3 with u | ⟨-, u, y⟩
      · exact absurd (u.2.1.symm.trans z) u.1
      rcases v3 with v | ⟨-, v⟩
      · exact absurd z v
      refine ⟨⟨u, y⟩, ?_⟩
      unfold vok at v
      omega
    refine ⟨o3, w3.1.1, fun _ => ⟨A7.1, by rw [A7.2]; decide⟩, fun q3 => ?_, fun q3 => ih (c + 1) M3 (by omega) s3 (fun z => ?_) (fun z => ?_)⟩
    rotate_left
    · obtain ⟨⟨g1, g2⟩, g3⟩ := gv z
      have g4 : mL M3 (a + 97) 0 = 0 := by
        rcases g3 with y | y
        · exact y
        · exact absurd ⟨z, (cmpz _ _).2.2.2.1.2 y⟩ q3
      refine ⟨s9, zg3, g2, zs3, ?_⟩
      rw [zr, tcq_0 (by rw [g1]) (by rw [g1]; exact g4)]
    · rcases u3 with u | ⟨u, -⟩
      · have e9 := tcq_f (stp := stp) (nb := nbx9 T9) (c := c) (s := s9) u.1
        rw [zr, e9, tsq_f u.1]
        show ((ev sg cm.2.2.1.1 cm.2.2.1.2).1, (ev sg cm.2.2.1.1 cm.2.2.1.2).2.1) = _
        rw [u.2.1, u.2.2]
      · exact absurd u z
    obtain ⟨⟨g1, g2⟩, g3⟩ := gv q3.1
    have g4 : mL M3 (a + 97) 0 = 1 := (cmpz _ _).2.2.2.1.1 q3.2
    have hp3 := hp2.gs gs3 hR
    have hL2 := xd3.le
    refine (x_MM_enabled (d := d) (k := k) (c := c) (sg := sg) (s9 := s9) (T9 := T9) (L0 := L) hev hstp hp3 hcm hok (by rw [g1]) (by rw [g1]; show mL M3 (a + 97) 0 ≠ 0; omega) g2 zs3 zg3 gg3 en3 xd3 y5 q3.1 hk5 (by rw [tb.2.2, y3]; omega) (by omega)).mono (fun M4 t4 => ⟨t4.1, ih (c + 1) M4 (by omega) ?_ (fun z => ?_) (fun z => ?_)⟩)
    rotate_left
    · rcases t4.2.2 with ⟨y, -⟩ | ⟨-, y1, y2, y3⟩
      · exact absurd z y
      · exact ⟨_, y1, y2, y3, zr⟩
    · rcases t4.2.2 with ⟨y, e⟩ | ⟨y, -⟩
      · rw [zr, tsq_f (by rw [e]; exact y)]
        exact e
      · exact absurd y z
    obtain ⟨-, ⟨x4, gg4, en4, k7, k8, v4⟩, -⟩ := t4
    refine ⟨s3.1.trans x4, gg4, en4, fun z4 => ?_⟩
    rcases v4 with y | ⟨-, u1, n4, w4, B4, u2, u3, u4, u5⟩
    · exact absurd z4 y
    · refine ⟨⟨by rw [k7, tb.2.1]; exact t1, fun k' hk' => ⟨by rw [k7, tb.2.1]; exact (t2 k' hk').1, by rw [k8 k' hk', tb.2.2]; exact (t2 k' hk').2⟩⟩, n4, L2 + 1, w4, B4, by omega, by omega, by rw [u1, tb.2.2, y3]; omega, fun i hi => by rw [u3 i (by omega)]; exact y4 i hi, u4, u5⟩
theorem x_MM_state0 {S9 : List (List Int)} {T9 : xt9} (hev : ∀ sg i j, ev sg i j = vlq ww (cvS sg) pl 0 0 i j) (hstp : ∀ sg l, stp sg l = ((stq9 ww (cvS sg) pl lo hi l (fun v => sg.getD v 0)).1, (List.range W).map (stq9 ww (cvS sg) pl lo hi l (fun v => sg.getD v 0)).2)) (hp : GP ww pl XV ev M g R W C T E tgI cms lo hi) (esg : sg = lsR M a W k) (hok : GOk ev cms sg) (e29 : mI M a 29 = ((S9.length : Nat) : Int)) (eS : SmR M a W S9.length = S9) (eT : xtR M a k = T9) (eb : ∀ k', k' < k → (mI M (a + 107) k').toNat + (mI M (a + 108) k').toNat ≤ L) (enb : nbx9 T9 = w) (eW : Wc M a w) (h : GG M a g T R W C Z E tg) (xd : XD M a g n W L w L B) (hw : B L = w) (z16 : mI M a 16 = 0) (hk : k < n) : Cv G y_MM_state0 (d + 9) [vr a, vi k] M (fun M' => mOk M' ∧ sI M a g T R W C Z E tg n L k B M' ∧ eyX (ssq9 ev stp tgI cms sg (nbx9 T9) S9) T9 a W k L (XV sg) g R sg M') := by
  have o := h.1
  have wd := h.2.1
  have hg := h.2.2.1.2
  have hn5 := xd.1.2.2
  have hL := xd.le
  have no : ∀ q : Nat, False → q ∈ nums a := fun _ z => z.elim
  have b512 : ((0 : Int) ≤ (k : Int) ∧ (k : Int) < ((512 : Nat) : Int)) := by omega
  have ik : i32 (k : Int) := i32s (by omega) (by omega)
  refine k_MM_state0 o ik ⟨wd.1.1, (x_MM_enter (d := d + 8) (k := k) h (by omega) (fun v hv => xd.2.2.1 k v hk hv)).mono (fun M2 t2 => ?_)⟩
  obtain ⟨o2, m2, en2, n2, r2⟩ := t2
  have w2 := m2.2.1
  have A6 : ∀ {Mx : mM}, Wd Mx a → (mK Mx (a + 106) = 30 ∧ mN Mx (a + 106) = 512) ∧ (mK Mx (a + 107) = 30 ∧ mN Mx (a + 107) = 512) ∧ (mK Mx (a + 108) = 30 ∧ mN Mx (a + 108) = 512) := fun w => ⟨w.1.2.2.2.2.2.2.2.2.1.2.1, w.1.2.2.2.2.2.2.2.2.1.2.2.1, w.1.2.2.2.2.2.2.2.2.1.2.2.2⟩
  have R6 : ∀ {Mx : mM}, Wd Mx a → mR Mx a 32 = a + 106 ∧ mR Mx a 33 = a + 107 ∧ mR Mx a 34 = a + 108 ∧ mR Mx a 35 = a + 109 := fun w => ⟨w.1.2.2.2.2.2.1.2.1, w.1.2.2.2.2.2.1.2.2.1, w.1.2.2.2.2.2.1.2.2.2.1, w.1.2.2.2.2.2.1.2.2.2.2.1⟩
  rw [(R6 w2).1, Int.toNat_natCast]
  refine ⟨o2, w2.1.1, (A6 w2).1.1, by rw [(A6 w2).1.2]; exact b512, fun M3 e3 => ?_⟩
  obtain ⟨m3, f3, l3⟩ := mv_cell (v := 0) ⟨by decide, by decide⟩ o2 w2 (show a ≤ a + 106 by omega) (offx (a := a) (o := 106) (by decide)) e3
  have w3 := m3.2.1
  have l109 : mI M3 (a + 109) 1 = (L : Int) := by
    have e1 := (m3.lst (k109 (a := a)) (fun z => z)).1
    have e2 := (m2.lst (k109 (a := a)) (fun z => z)).1
    exact e1.trans (e2.trans xd.2.2.2.2.1.1)
  rw [(R6 w3).2.2.2, (R6 w3).2.1, l109]
  refine ⟨(w3.nu k109).1, (A6 w3).2.1.1, by rw [(A6 w3).2.1.2]; exact b512, fun M4 e4 => ?_⟩
  obtain ⟨m4, f4, l4⟩ := mv_cell (v := (L : Int)) (i32s (by omega) (by omega)) m3.1 w3 (show a ≤ a + 107 by omega) (offx (a := a) (o := 107) (by decide)) e4
  have w4 := m4.2.1
  rw [(R6 w4).2.2.1]
  refine ⟨(A6 w4).2.2.1, by rw [(A6 w4).2.2.2]; exact b512, fun M5 e5 => ?_⟩
  obtain ⟨m5, f5, l5⟩ := mv_cell (v := 0) ⟨by decide, by decide⟩ m4.1 w4 (show a ≤ a + 108 by omega) (offx (a := a) (o := 108) (by decide)) e5
  have w5 := m5.2.1
  have nz : ∀ {Mx : mM} (q : Nat), False → q < mZ Mx := fun _ z => z.elim
  have m25 : Mv (fun _ => False) (fun x => a + 106 ≤ x ∧ x ≤ a + 108) M2 a M5 := ((m3.mono (fun _ z => z) (fun x z => by omega) nz).trans (m4.mono (fun _ z => z) (fun x z => by omega) nz)).trans (m5.mono (fun _ z => z) (fun x z => by omega) nz)
  have mm : Mv (fun _ => False) (fun x => (a + 101 ≤ x ∧ x ≤ a + 102) ∨ (a + 106 ≤ x ∧ x ≤ a + 108)) M a M5 := (m2.mono (fun _ z => z) (fun x z => Or.inl (by omega)) nz).trans (m25.mono (fun _ z => z) (fun x z => Or.inr z) nz)
  have aI := (mm.fld wd no (by omega)).1
  have F5 : xF M a M5 := xF.mk wd mm (fun _ z => z.elim) (fun x z => Or.inr (Or.inl (by omega))) (fun i _ _ _ _ _ => by rw [aI])
  have gs5 := F5.gs wd hg
  have gg5 := h.gs m5.1 w5 (by rw [mm.rfl_a wd no]) gs5
  have gs25 := gs_st w2 hg m25 no (fun _ z => z.elim) (fun x z => by omega)
  have en5 := en2.mv w2 m25 no gs25 (fun x z => by omega)
  have xd5 := xd.mv wd mm no (fun _ z => z.elim) (fun x z => by omega) gs5 (by rw [aI]) (by rw [aI])
  have c7 : mI M5 (a + 107) k = (L : Int) := by rw [f5, if_neg (fun z => by omega), f4, if_pos ⟨rfl, rfl⟩]
  have c8 : mI M5 (a + 108) k = 0 := by rw [f5, if_pos ⟨rfl, rfl⟩]
  have q7 := (m2.cellL wd no (offx (a := a) (o := 107) (by decide)) (by omega)).1
  have q8 := (m2.cellL wd no (offx (a := a) (o := 108) (by decide)) (by omega)).1
  have d7 : ∀ k', k' ≠ k → mI M5 (a + 107) k' = mI M (a + 107) k' := fun k' hk' => by rw [f5, if_neg (fun z => by omega), f4, if_neg (fun z => hk' z.2), f3, if_neg (fun z => by omega), q7]
  have d8 : ∀ k', k' ≠ k → mI M5 (a + 108) k' = mI M (a + 108) k' := fun k' hk' => by rw [f5, if_neg (fun z => hk' z.2), f4, if_neg (fun z => by omega), f3, if_neg (fun z => by omega), q8]
  have s5 : sI M a g T R W C Z E tg n L k B M5 := ⟨F5, gg5, en5, fun _ => ⟨⟨c7, fun k' hk' => ⟨d7 k' hk', d8 k' hk'⟩⟩, n, L, w, B, Nat.le_refl _, Nat.le_refl _, by rw [c8, Nat.sub_self]; rfl, fun _ _ => rfl, hw, xd5⟩⟩
  have hR := h.2.2.2.2.2.2.2.1.1.1
  have hW12 := h.2.2.2.2.2.2.2.1.1.2.1
  have hp5 := hp.gs gs5 hR
  have hs5 : ∀ v, v < W → mI M5 (a + 101) v = sg.getD v 0 := fun v hv => by
    rw [(m25.cellL w2 no (offx (a := a) (o := 101) (by decide)) (by omega)).1, n2 v hv, esg]
    exact (getD_mp (f := fun v => mI M (a + 105) (12 * k + v)) hv).symm
  have xq5 : XVq M5 a g R W (XV sg) := xv_ent gg5 hp5 hs5 (fun r hr => by
    rw [(m25.cellL w2 no (offx (a := a) (o := 102) (by decide)) (by omega)).1]
    exact r2 r hr)
  have cm5 : ∀ i, cmQ M5 a i = cmQ M a i := fun i => by
    unfold cmQ
    rw [show nt M5 (a + 109) = nt M (a + 109) from funext (fun j => (mm.lst k109 (fun z => z)).2.1 j), show nt M5 (a + 111) = nt M (a + 111) from funext (fun j => (mm.lst k111 (fun z => z)).2.1 j), show nt M5 (a + 113) = nt M (a + 113) from funext (fun j => (mm.lst k113 (fun z => z)).2.1 j), show nt M5 (a + 115) = nt M (a + 115) from funext (fun j => (mm.lst k115 (fun z => z)).2.1 j), brR_cg (M := M) (M' := M5) (fun _ _ _ => ⟨by rw [(mm.cellL wd no (offx (a := a) (o := 21185) (by decide)) (by omega)).1], by rw [(mm.cellL wd no (offx (a := a) (o := 21186) (by decide)) (by omega)).2], by rw [(mm.cellL wd no (offx (a := a) (o := 21187) (by decide)) (by omega)).2]⟩)]
  have c6 : mI M5 (a + 106) k = 0 := by rw [f5, if_neg (fun z => by omega), f4, if_neg (fun z => by omega), f3, if_pos ⟨rfl, rfl⟩]
  have q6 := (m2.cellL wd no (offx (a := a) (o := 106) (by decide)) (by omega)).1
  have d6 : ∀ k', k' ≠ k → mI M5 (a + 106) k' = mI M (a + 106) k' := fun k' hk' => by rw [f5, if_neg (fun z => by omega), f4, if_neg (fun z => by omega), f3, if_neg (fun z => hk' z.2), q6]
  have gq5 : GQr M5 a W k L T9 ((0, 0), S9, 0, []) := ⟨rfl, by rw [aI]; exact e29, by rw [SmR_cg (M := M) hW12 (fun j _ => by rw [(mm.cellL wd no (offx (a := a) (o := 105) (by decide)) (by omega)).1])]; exact eS, by rw [← eT]; exact xtR_cg (L := L) (fun k' hk' => d6 k' (by omega)) (fun k' hk' => ⟨d7 k' (by omega), d8 k' (by omega)⟩) eb (fun i _ => cm5 i), c6, fun k' hk' => by rw [d7 k' (by omega), d8 k' (by omega)]; exact eb k' hk', L, w, c7, ⟨Nat.le_refl _, by rw [c8, Nat.sub_self]; rfl⟩, xd5.2.2.2.2.1.1, xd5.2.1.1, by rw [Nat.sub_self]; rfl, by show nbx9 T9 + 0 = w; omega, fun j hj => by rw [(mm.cellL wd no (offx (a := a) (o := 21186) (by decide)) (by omega)).2, (mm.cellL wd no (offx (a := a) (o := 21187) (by decide)) (by omega)).2]; exact eW j hj⟩
  have rt := hp5.2.2.2.2.1
  have z165 : mI M5 a 16 = 0 := by rw [aI]; exact z16
  rw [gg5.2.2.1.1]
  refine ⟨(w5.gp hg).1, (x_MM_reach (d := d + 3) gg5 en5 hp5.1 xq5 rt z165).mono (fun M6 t6 => ?_)⟩
  obtain ⟨o6, ⟨xr6, gg6, en6, v6⟩, u6⟩ := t6
  have x6 := xr6.xe w5
  have w6 := gg6.2.1
  have gs6 := x6.gs w5 hg
  have tb := x6.tab w5
  have un : ∀ x, xE a x → x = a ∨ (a + 97 ≤ x ∧ x ≤ a + 98) ∨ (a + 102 ≤ x ∧ x ≤ a + 104) ∨ (a + 21188 ≤ x ∧ x ≤ a + 21190) := fun x hx => hx
  have xd6 := xd5.mv w5 x6.1 in99 (fun q hq => by omega) (fun x hx => by have := un x hx; omega) gs6 (x6.2 29 (by decide) (by decide) (by decide)) (x6.2 40 (by decide) (by decide) (by decide))
  have s6 : sI M a g T R W C Z E tg n L k B M6 := ⟨F5.trans (x6.xf w5), gg6, en6, fun _ => ⟨by rw [tb.2.1, tb.2.2]; exact ⟨c7, fun k' hk' => ⟨d7 k' hk', d8 k' hk'⟩⟩, n, L, w, B, Nat.le_refl _, Nat.le_refl _, by rw [tb.2.2, c8, Nat.sub_self]; rfl, fun _ _ => rfl, hw, xd6⟩⟩
  have gq6 := gq5.mv hW12 w5 x6.1 in99 (fun q hq => by omega) (fun x hx => by have := un x hx; omega) (x6.2 29 (by decide) (by decide) (by decide)) (x6.2 40 (by decide) (by decide) (by decide))
  have hs6 : ∀ v, v < W → mI M6 (a + 101) v = sg.getD v 0 := fun v hv => by
    rw [(x6.1.cellL w5 in99 (offx (a := a) (o := 101) (by decide)) (fun z => by have := un _ z; omega)).1]
    exact hs5 v hv
  have gv : mI M6 a 16 = 0 → (ev sg tgI.1 tgI.2 = (0, mL M6 (a + 97) 0, 1) ∧ XVq M6 a g R W (XV sg)) ∧ (mL M6 (a + 97) 0 = 0 ∨ mL M6 (a + 97) 0 = 1) := fun z => by
    rcases u6 with u | ⟨-, u, y⟩
    · exact absurd (u.2.1.symm.trans z) u.1
    rcases v6 with v | ⟨-, v⟩
    · exact absurd z v
    refine ⟨⟨u, y⟩, ?_⟩
    unfold vok at v
    omega
  have A7 : mK M6 (a + 97) = 33 ∧ mN M6 (a + 97) = 16400 := w6.1.2.2.2.2.2.2.2.1.1
  rw [show mR M6 a 21 = a + 97 from w6.1.2.2.2.2.1.2.2.2.2.2.2.1, (R6 w6).1]
  refine ⟨o6, w6.1.1, fun z6 => ⟨A7.1, by rw [A7.2]; decide, fun q7 => ⟨(A6 w6).1.1, by rw [(A6 w6).1.2]; exact b512, fun M7 e7 => ?_⟩, fun q7 => ?_⟩, fun z6 => ⟨o6, s6, Or.inl ⟨z6, ?_⟩⟩⟩
  rotate_left
  · obtain ⟨⟨g1, g2⟩, g3⟩ := gv z6
    have g4 : mL M6 (a + 97) 0 = 0 := by
      rcases g3 with y | y
      · exact y
      · exact absurd ((cmpz _ _).2.2.2.1.2 y) q7
    refine x_st72 hev hstp h hp hok (by omega) C 0 M6 (by omega) s6 (fun _ => ⟨_, gq6, g2, hs6, ?_⟩) (fun z => absurd z6 z)
    rw [ssq_n (by rw [g1]) (by rw [g1]; exact g4)]
    rfl
  · rcases u6 with u | ⟨u, -⟩
    · rw [ssq_f u.1, ← u.2.1, ← u.2.2]
    · exact absurd u z6
  obtain ⟨⟨g1, g2⟩, g3⟩ := gv z6
  have g4 : mL M6 (a + 97) 0 = 1 := (cmpz _ _).2.2.2.1.1 q7
  obtain ⟨m7, f7, l7⟩ := mv_cell (v := 3) ⟨by decide, by decide⟩ o6 w6 (show a ≤ a + 106 by omega) (offx (a := a) (o := 106) (by decide)) e7
  have aI7 := (m7.fld w6 no (by omega)).1
  have F7 : xF M6 a M7 := xF.mk w6 m7 (fun _ z => z.elim) (fun x z => Or.inr (Or.inl (by omega))) (fun i _ _ _ _ _ => by rw [aI7])
  have gs7 := F7.gs w6 hg
  have xd7 := xd6.mv w6 m7 no (fun _ z => z.elim) (fun x z => by omega) gs7 (by rw [aI7]) (by rw [aI7])
  have e7' : ∀ y, y ≠ a + 106 → mI M7 y = mI M6 y := fun y hy => by
    funext j
    rw [f7, if_neg (fun z => hy z.1)]
  refine ⟨m7.1, ⟨s6.1.trans F7, gg6.gs m7.1 m7.2.1 (by rw [m7.rfl_a w6 no]) gs7, en6.mv w6 m7 no gs7 (fun x z => by omega), fun _ => ⟨by rw [e7' (a + 107) (by omega), e7' (a + 108) (by omega), tb.2.1, tb.2.2]; exact ⟨c7, fun k' hk' => ⟨d7 k' hk', d8 k' hk'⟩⟩, n, L, w, B, Nat.le_refl _, Nat.le_refl _, by rw [e7' (a + 108) (by omega), tb.2.2, c8, Nat.sub_self]; rfl, fun _ _ => rfl, hw, xd7⟩⟩, Or.inr ⟨by rw [aI7]; exact z6, ?_, g2.mv w6 m7 no gs7 (fun x z => by omega), fun v hv => by rw [e7' (a + 101) (by omega)]; exact hs6 v hv⟩⟩
  rw [ssq_t (by rw [g1]) (by rw [g1]; show mL M6 (a + 97) 0 ≠ 0; omega)]
  obtain ⟨i1, i2, i3, i4, i5, i6, L2, w9, i7, i8, i9, i10, i11, i12, i13⟩ := gq6
  have l7' : mL M7 = mL M6 := l7
  have cm7 : ∀ i, cmQ M7 a i = cmQ M6 a i := fun i => by
    unfold cmQ
    rw [show nt M7 (a + 109) = nt M6 (a + 109) from funext (fun j => (m7.lst k109 (fun z => z)).2.1 j), show nt M7 (a + 111) = nt M6 (a + 111) from funext (fun j => (m7.lst k111 (fun z => z)).2.1 j), show nt M7 (a + 113) = nt M6 (a + 113) from funext (fun j => (m7.lst k113 (fun z => z)).2.1 j), show nt M7 (a + 115) = nt M6 (a + 115) from funext (fun j => (m7.lst k115 (fun z => z)).2.1 j), brR_cg (M := M6) (M' := M7) (fun _ _ _ => ⟨by rw [e7' (a + 21185) (by omega)], by rw [l7'], by rw [l7']⟩)]
  refine ⟨rfl, by rw [aI7]; exact i2, by rw [SmR_cg (M := M6) hW12 (fun j _ => by rw [e7' (a + 105) (by omega)])]; exact i3, ?_, by rw [f7, if_pos ⟨rfl, Int.toNat_natCast k⟩], fun k' hk' => by rw [e7' (a + 107) (by omega), e7' (a + 108) (by omega)]; exact i6 k' hk', L2, w9, by rw [e7' (a + 107) (by omega)]; exact i7, by rw [e7' (a + 108) (by omega)]; exact i8, by rw [(m7.lst k109 (fun z => z)).1]; exact i9, by rw [aI7]; exact i10, by rw [cmL_cg (M := M6) (fun i _ _ => cm7 i)]; exact i11, i12, fun j hj => by rw [l7']; exact i13 j hj⟩
  rw [← i4]
  exact xtR_cg (L := L) (fun k' hk' => by rw [f7, if_neg (fun z => by have := z.2; omega)]) (fun k' _ => by rw [e7' (a + 107) (by omega), e7' (a + 108) (by omega)]; exact ⟨rfl, rfl⟩) i6 (fun i _ => cm7 i)
end STX
end
section
/-! The reference: explore, exactly. -/
section EXX
variable {G : mG} {d a g T R W C Z : Nat} {M M' M1 M2 M3 : mM} {E : Eg9} {tg : Int} {Nt9 : tP9} {ww pl lo hi : Nat → Int} {XV : List Int → Int → vrs} {ev : List Int → Nat → Nat → vrs} {cvS : List Int → Nat → vrs} {stp : List Int → List (Nat × Nat × Nat × Nat) → (Int × Int) × List Int} {tgI : Nat × Nat} {cms : List cm9}
/-- the states that were found -/
def XTr (M : mM) (a g W : Nat) (S : List (List Int)) (T : xt9) : Prop := mI M a 29 = ((S.length : Nat) : Int) ∧ SmR M a W S.length = S ∧ xtR M a S.length = T ∧ ∃ w9 : Nat, mI M a 40 = (w9 : Int) ∧ Wc M a w9 ∧ ∃ (L w : Nat) (B : Nat → Nat), XD M a g S.length W L w L B ∧ B L = w
/-- what explore comes to -/
def xpR (X : (Int × Int) × Nat × List (List Int) × xt9) (a g W : Nat) (r : Int) (M' : mM) : Prop := (X.1.1 ≠ 0 ∧ r = X.1.1 ∧ mI M' a 12 = X.1.2 ∧ mI M' a 30 = ((X.2.1 : Nat) : Int) ∧ mI M' a 29 = 0 ∧ mI M' (a + 117 + 30) 0 = 0) ∨ (X.1 = (0, 0) ∧ r = 0 ∧ mI M' a 12 = -1 ∧ mI M' a 30 = -1 ∧ XTr M' a g W X.2.2.1 X.2.2.2 ∧ SvT M' (a + 117) X.2.2.2 ∧ kdT X.2.2.2 ∧ mI M' (a + 117 + 30) 0 = 0)
/-- nothing but the sign of a throw has changed -/
def xU (M M' : mM) (a : Nat) : Prop := mR M' = mR M ∧ mL M' = mL M ∧ (∀ x, x ≠ a → mI M' x = mI M x) ∧ ∀ i, i ≠ 0 → mI M' a i = mI M a i
theorem xU.one {v : Int} (e : M' = mUI M a 0 v) : xU M M' a := by
  subst e
  refine ⟨rfl, rfl, fun x hx => ?_, fun i hi => ?_⟩
  · funext k
    rw [mI_UI, if_neg (fun z => hx z.1)]
  · rw [mI_UI, if_neg (fun z => hi z.2)]
/-- the game of a text, with its words -/
def GdX (ww pl : Nat → Int) (XV : List Int → Int → vrs) (ev : List Int → Nat → Nat → vrs) (i9 : tI9) (M : mM) (g W : Nat) (tgI : Nat × Nat) (cms : List cm9) (lo hi : Nat → Int) (s0 : List Int) : Prop := ∃ (T R C Z : Nat) (E : Eg9) (tg : Int), nd M g T ∧ (T ≤ 16384 ∧ Z ≤ 16384) ∧ (mI M g 6 = R ∧ mI M g 12 = W ∧ mI M g 18 = C ∧ mI M g 17 = tg) ∧ (ln M (g + 30) = Z ∧ ln M (g + 32) = Z ∧ ln M (g + 34) = Z) ∧ Dg M g R W C Z T E tg ∧ 0 ≤ tg ∧ (mI M g 12 = i9.2.1 ∧ mI M g 6 = i9.2.2.1 ∧ mI M g 18 = i9.2.2.2.1 ∧ GaO E.2 ∧ i9.2.2.2.2.1 = XpG E.2) ∧ GP ww pl XV ev M g R W C T E tgI cms lo hi ∧ s0 = (List.range W).map (fun v => mI M (g + 21) v)
theorem GdX.gs {i9 : tI9} {s0 : List Int} (h : GdX ww pl XV ev i9 M g W tgI cms lo hi s0) (k : Gs M M' g) : GdX ww pl XV ev i9 M' g W tgI cms lo hi s0 := by
  obtain ⟨T, R, C, Z, E, tg, h1, h2, h3, h4, h5, h6, h7, h8, h9⟩ := h
  obtain ⟨hI, hc, hl⟩ := id k
  have G : Ge M g R W C Z T M' := ⟨⟨fun n _ => ⟨(hl (g + 1) (by first | exact tLk1 g | exact gLk1 g | omega)).2 n, (hl (g + 7) (by first | exact tLk7 g | exact gLk7 g | omega)).2 n, (hl (g + 9) (by first | exact tLk9 g | exact gLk9 g | omega)).2 n, (hl (g + 11) (by first | exact tLk11 g | exact gLk11 g | omega)).2 n, (hl (g + 3) (by first | exact tLk3 g | exact gLk3 g | omega)).2 n⟩, fun r _ => ⟨by rw [(hc 13 (by omega) (by omega)).1], by rw [(hc 14 (by omega) (by omega)).1]⟩, fun v _ => by rw [(hc 18 (by omega) (by omega)).1]⟩, fun r _ => ⟨by rw [(hc 15 (by omega) (by omega)).1], by rw [(hc 16 (by omega) (by omega)).2], by rw [(hc 17 (by omega) (by omega)).2]⟩, fun v _ => ⟨by rw [(hc 19 (by omega) (by omega)).1], by rw [(hc 20 (by omega) (by omega)).1], by rw [(hc 21 (by omega) (by omega)).1]⟩, fun c _ => ⟨by rw [(hc 24 (by omega) (by omega)).1], by rw [(hc 25 (by omega) (by omega)).1], fun b _ => ⟨by rw [(hc 26 (by omega) (by omega)).1], by rw [(hc 28 (by omega) (by omega)).1], by rw [(hc 29 (by omega) (by omega)).1], by rw [(hc 27 (by omega) (by omega)).1], by rw [(hc 22 (by omega) (by omega)).1], by rw [(hc 23 (by omega) (by omega)).1]⟩⟩, fun i _ => ⟨(hl (g + 30) (by first | exact gLk30 g | omega)).2 i, (hl (g + 34) (by first | exact gLk34 g | omega)).2 i, (hl (g + 32) (by first | exact gLk32 g | omega)).2 i⟩⟩
  refine ⟨T, R, C, Z, E, tg, fun q hq => ?_, h2, by rw [hI]; exact h3, ⟨by rw [(hl (g + 30) (by first | exact gLk30 g | omega)).1]; exact h4.1, by rw [(hl (g + 32) (by first | exact gLk32 g | omega)).1]; exact h4.2.1, by rw [(hl (g + 34) (by first | exact gLk34 g | omega)).1]; exact h4.2.2⟩, h5.ge G, h6, by rw [hI]; exact h7, h8.gs k h5.1.1, by rw [(hc 21 (by omega) (by omega)).1]; exact h9⟩
  have hq' : q = g + 1 ∨ q = g + 3 ∨ q = g + 5 ∨ q = g + 7 ∨ q = g + 9 ∨ q = g + 11 := hq
  rw [(hl q (by omega)).1]
  exact h1 q hq
/-- the solver's step leaves them -/
theorem XTr.sol {S : List (List Int)} {T9 : xt9} {S' : Nat → Prop} (h : XTr M a g W S T9) (w : Wd M a) (m : Mv (fun _ => False) S' M a M') (hS : ∀ x, S' x → a + 117 ≤ x ∧ x ≤ a + 117 + 21067) (hW : W ≤ 12) (aI : mI M' a = mI M a) (hx : ∃ (L w : Nat) (B : Nat → Nat), XD M' a g S.length W L w L B ∧ B L = w) : XTr M' a g W S T9 := by
  obtain ⟨h1, h2, h3, w9, h4, h5, -⟩ := h
  have no : ∀ q : Nat, False → q ∈ nums a := fun _ z => z.elim
  have c : ∀ o, frO o → (o = 105 ∨ o = 106 ∨ o = 107 ∨ o = 108 ∨ o = 21185 ∨ o = 21186 ∨ o = 21187) → mI M' (a + o) = mI M (a + o) ∧ mL M' (a + o) = mL M (a + o) := fun o fo ho => m.cellL w no (offx fo) (fun z => by have := hS _ z; omega)
  have c5 := (c 105 (by decide) (by omega)).1
  have c6 := (c 106 (by decide) (by omega)).1
  have c7 := (c 107 (by decide) (by omega)).1
  have c8 := (c 108 (by decide) (by omega)).1
  have c85 := (c 21185 (by decide) (by omega)).1
  have c86 := (c 21186 (by decide) (by omega)).2
  have c87 := (c 21187 (by decide) (by omega)).2
  have cm : ∀ i, cmQ M' a i = cmQ M a i := fun i => by
    unfold cmQ
    rw [show nt M' (a + 109) = nt M (a + 109) from funext (fun j => (m.lst k109 (fun z => z)).2.1 j), show nt M' (a + 111) = nt M (a + 111) from funext (fun j => (m.lst k111 (fun z => z)).2.1 j), show nt M' (a + 113) = nt M (a + 113) from funext (fun j => (m.lst k113 (fun z => z)).2.1 j), show nt M' (a + 115) = nt M (a + 115) from funext (fun j => (m.lst k115 (fun z => z)).2.1 j), brR_cg (M := M) (M' := M') (fun _ _ _ => by rw [c85, c86, c87]; exact ⟨rfl, rfl, rfl⟩)]
  refine ⟨by rw [aI]; exact h1, by rw [SmR_cg (M := M) hW (fun j _ => by rw [c5])]; exact h2, ?_, w9, by rw [aI]; exact h4, fun j hj => by rw [c86, c87]; exact h5 j hj, hx⟩
  rw [← h3]
  unfold xtR stR
  refine List.map_congr_left (fun k hk => ?_)
  rw [c6, c7, c8, cmL_cg (M := M) (fun i _ _ => cm i)]
/-- before state k -/
def pX (ev : List Int → Nat → Nat → vrs) (stp : List Int → List (Nat × Nat × Nat × Nat) → (Int × Int) × List Int) (tgI : Nat × Nat) (cms : List cm9) (Ok : List Int → Prop) (X : (Int × Int) × Nat × List (List Int) × xt9) (a W k : Nat) (M2 : mM) : Prop := (mI M2 a 16 = 0 → ∃ (S : List (List Int)) (T9 : xt9), X = exq9 ev stp tgI cms (513 - k) k S T9 ∧ mI M2 a 29 = ((S.length : Nat) : Int) ∧ SmR M2 a W S.length = S ∧ xtR M2 a k = T9 ∧ S.length ≤ 512 ∧ ∃ w9 : Nat, mI M2 a 40 = (w9 : Int) ∧ nbx9 T9 = w9 ∧ Wc M2 a w9 ∧ ∀ s, s ∈ S → Ok s) ∧ (mI M2 a 16 ≠ 0 → X.1 = (mI M2 a 16, mI M2 a 17) ∧ X.2.1 + 1 = k)
theorem enq_ok {Ok : List Int → Prop} {S S' : List (List Int)} {x : List Int} {k : Nat} (h : enq9 S x = some (k, S')) (hx : Ok x) (hS : ∀ s, s ∈ S → Ok s) : ∀ s, s ∈ S' → Ok s := by
  unfold enq9 at h
  split at h
  · have := Option.some.inj h
    have e : S = S' := congrArg Prod.snd this
    rw [← e]
    exact hS
  · split at h
    · exact absurd h (by simp)
    · have := Option.some.inj h
      have e : S ++ [x] = S' := congrArg Prod.snd this
      rw [← e]
      intro s hs
      rcases List.mem_append.mp hs with q | q
      · exact hS s q
      · rw [List.mem_singleton.mp q]; exact hx
theorem flq_ok {Ok : List Int → Prop} {sg : List Int} {pc m : Int} {nb : Nat} (hok1 : ∀ sg l, Ok sg → (stp sg l).1.1 = 0 → Ok (stp sg l).2) (hsg : Ok sg) : ∀ (l : List (br9 × (Int × Int))) (S : List (List Int)) (Bl : List (Nat × Int)), (∀ s, s ∈ S → Ok s) → ∀ s, s ∈ (flq9 stp sg pc m nb l S Bl).2.1 → Ok s
  | [], S, Bl, hS => hS
  | x :: l, S, Bl, hS => by
    by_cases c0 : x.2.1 = 0
    · rw [flq_0 c0]
      exact flq_ok hok1 hsg l S Bl hS
    by_cases c1 : (stp sg x.1.2.2).1.1 = 0
    rotate_left
    · rw [flq_f c0 c1]
      exact hS
    cases c2 : enq9 S (stp sg x.1.2.2).2 with
    | none =>
      rw [flq_n c0 c1 c2]
      exact hS
    | some q =>
      obtain ⟨to, S2⟩ := q
      have hS2 := enq_ok c2 (hok1 sg _ hsg c1) hS
      rw [flq_e c0 c1 c2]
      cases c3 : jnq9 to (m / x.2.2 * x.2.1) Bl with
      | some B' => exact flq_ok hok1 hsg l S2 B' hS2
      | none =>
        show ∀ s, s ∈ (if nb + Bl.length = 4096 then ((5, pc), S2, Bl) else flq9 stp sg pc m nb l S2 (Bl ++ [(to, m / x.2.2 * x.2.1)])).2.1 → Ok s
        by_cases c4 : nb + Bl.length = 4096
        · rw [if_pos c4]
          exact hS2
        · rw [if_neg c4]
          exact flq_ok hok1 hsg l S2 _ hS2
theorem tcq_ok {Ok : List Int → Prop} {sg : List Int} {nb c : Nat} {cm : cm9} {s : sl9} (hok1 : ∀ sg l, Ok sg → (stp sg l).1.1 = 0 → Ok (stp sg l).2) (hsg : Ok sg) (hS : ∀ x, x ∈ s.2.1 → Ok x) : ∀ x, x ∈ (tcq9 ev stp sg nb c cm s).2.1 → Ok x := by
  unfold tcq9
  split
  · exact hS
  split
  · exact hS
  split
  · exact hS
  split
  · exact hS
  split
  · exact hS
  split
  · exact hS
  exact flq_ok hok1 hsg _ _ _ hS
theorem tsq_ok {Ok : List Int → Prop} {sg : List Int} {nb : Nat} (hok1 : ∀ sg l, Ok sg → (stp sg l).1.1 = 0 → Ok (stp sg l).2) (hsg : Ok sg) : ∀ (l : List cm9) (c : Nat) (s : sl9), (∀ x, x ∈ s.2.1 → Ok x) → ∀ x, x ∈ (tsq9 ev stp sg nb l c s).2.1 → Ok x
  | [], c, s, hS => hS
  | cm :: l, c, s, hS => by
    show ∀ x, x ∈ (if s.1.1 ≠ 0 then s else tsq9 ev stp sg nb l (c + 1) (tcq9 ev stp sg nb c cm s)).2.1 → Ok x
    by_cases h : s.1.1 ≠ 0
    · rw [if_pos h]
      exact hS
    · rw [if_neg h]
      exact tsq_ok hok1 hsg l (c + 1) _ (tcq_ok hok1 hsg hS)
theorem ssq_ok {Ok : List Int → Prop} {sg : List Int} {nb : Nat} {tg : Nat × Nat} {S : List (List Int)} (hok1 : ∀ sg l, Ok sg → (stp sg l).1.1 = 0 → Ok (stp sg l).2) (hsg : Ok sg) (hS : ∀ x, x ∈ S → Ok x) : ∀ x, x ∈ (ssq9 ev stp tg cms sg nb S).2.1 → Ok x := by
  unfold ssq9
  split
  · exact hS
  split
  · exact hS
  exact tsq_ok hok1 hsg _ _ _ hS
end EXX
end
section
/-! The reference: the solver's tables are those of what was explored. -/
section TSV
variable {a n L w : Nat} {M : mM} {F B : Nat → Nat} {mu to up dn : Nat → Int}
theorem rgetR {α : Type} (f : Nat → α) (n k : Nat) : ((List.range n).map f)[k]? = if k < n then some (f k) else none := by
  by_cases h : k < n
  · rw [if_pos h, List.getElem?_map, List.getElem?_range h]
    all_goals rfl
  · rw [if_neg h]
    exact List.getElem?_eq_none (by rw [List.length_map, List.length_range]; omega)
theorem wsL_app {x : Nat → Rat} : ∀ l r : List (Nat × Int), wsL9 x (l ++ r) = wsL9 x l + wsL9 x r
  | [], r => by
    show wsL9 x r = 0 + wsL9 x r
    grind
  | b :: l, r => by
    show (b.2 : Rat) * x b.1 + wsL9 x (l ++ r) = (b.2 : Rat) * x b.1 + wsL9 x l + wsL9 x r
    rw [wsL_app l r]
    grind
theorem wsL_map {x : Nat → Rat} {p : Nat → Nat} {q : Nat → Int} : ∀ m, wsL9 x ((List.range m).map (fun t => (p t, q t))) = sr (fun t => (q t : Rat) * x (p t)) m
  | 0 => rfl
  | m + 1 => by
    rw [List.range_succ, List.map_append, wsL_app, wsL_map m]
    show _ + ((q m : Rat) * x (p m) + 0) = sr (fun t => (q t : Rat) * x (p t)) m + (q m : Rat) * x (p m)
    grind
theorem sr_cq {g h : Nat → Rat} {y : Rat} : ∀ n, (∀ t, t < n → g t = h t * y) → sr g n = sr h n * y
  | 0, _ => by
    show (0 : Rat) = 0 * y
    grind
  | n + 1, e => by
    show sr g n + g n = (sr h n + h n) * y
    rw [sr_cq n (fun t ht => e t (by omega)), e n (by omega)]
    grind
theorem inv_q {m c q : Rat} (h : m * c = q) (m0 : m ≠ 0) : c = q * m⁻¹ := by
  have e := Rat.mul_inv_cancel _ m0
  grind
theorem tl_svt (tt : TT M a n L w F B mu to up dn) (tl : TL M (a + 117) F B mu to up dn n L w) (hB : B L = w) (gb : GB M (a + 117)) (hto : ∀ j, j < w → 0 ≤ to j ∧ to j < n) : SvT M (a + 117) (xtR M a n) := by
  have lenT : (xtR M a n).length = n := by unfold xtR; rw [List.length_map, List.length_range]
  obtain ⟨⟨t0, t1, t2⟩, ⟨fn, fk⟩, -, bk, wk⟩ := tt
  obtain ⟨-, ⟨n1, n2, n3⟩, ⟨f1, f2⟩, ⟨b1, b2⟩, m1, w1, -, -, kd⟩ := tl
  have eF : ∀ j, j ≤ n → mI M (a + 117 + 23) j = (F j : Int) := fun j hj => by
    by_cases z : j = n
    · rw [z, f2, fn]
    · exact f1 j (by omega)
  have eB : ∀ j, j ≤ L → mI M (a + 117 + 25) j = (B j : Int) := fun j hj => by
    by_cases z : j = L
    · rw [z, b2, hB]
    · exact b1 j (by omega)
  refine ⟨by rw [n1]; unfold xtR; rw [List.length_map, List.length_range], fun k x hx => ?_⟩
  unfold xtR at hx
  rw [rgetR] at hx
  by_cases hk : k < n
  · rw [if_pos hk] at hx
    have ex := Option.some.inj hx
    subst ex
    obtain ⟨g7, g8, g9, g10⟩ := fk k hk
    have e23 := eF k (by omega)
    have e24 := eF (k + 1) (by omega)
    refine ⟨?_, ?_, fun i c hc => ?_⟩
    · rw [kd k hk, show a + 117 - 11 = a + 106 by omega]
      all_goals rfl
    · unfold mny stR cmL
      rw [List.length_map, List.length_range, e23, e24, g8, Int.toNat_natCast]
      omega
    · have hc' : ((List.range (mI M (a + 108) k).toNat).map (fun t => cmQ M a ((mI M (a + 107) k).toNat + t)))[i]? = some c := hc
      rw [rgetR, g7, g8, Int.toNat_natCast, Int.toNat_natCast] at hc'
      by_cases hi : i < F (k + 1) - F k
      · rw [if_pos hi] at hc'
        have ec := Option.some.inj hc'
        obtain ⟨q1, q2, q3, q4, q5⟩ := bk (F k + i) (by omega)
        have e25 := eB (F k + i) (by omega)
        have e26 := eB (F k + i + 1) (by omega)
        have bl : c.2.2 = (List.range (B (F k + i + 1) - B (F k + i))).map (fun t => ((mI M (a + 21185) (B (F k + i) + t)).toNat, mL M (a + 21186) (B (F k + i) + t) * (nt M (a + 115) (F k + i) / mL M (a + 21187) (B (F k + i) + t)))) := by
          rw [← ec]
          unfold cmQ brR
          rw [q1, q2, Int.toNat_natCast, Int.toNat_natCast]
        rw [e23, Int.toNat_natCast]
        refine ⟨by rw [m1 (F k + i) (by omega), ← q5, ← ec]; rfl, fun J => ?_, fun b hb => ?_, fun f => ?_⟩
        rotate_left
        · rw [bl] at hb
          obtain ⟨t, t3, t4⟩ := List.mem_map.mp hb
          have t5 := List.mem_range.mp t3
          rw [← t4, lenT]
          show (mI M (a + 21185) (B (F k + i) + t)).toNat < n
          have h1 := (wk (B (F k + i) + t) (by omega)).1
          have h2 := hto (B (F k + i) + t) (by omega)
          omega
        · have ecx : cx M (a + 117) k i = F k + i := by
            unfold cx
            rw [e23, Int.toNat_natCast]
          have ebg : bg M (a + 117) (F k + i) = B (F k + i) := by
            unfold bg
            rw [e25, Int.toNat_natCast]
          have enb : nb M (a + 117) (F k + i) = B (F k + i + 1) - B (F k + i) := by
            unfold nb
            rw [e25, e26]
            omega
          have c21 : c.2.1 = nt M (a + 115) (F k + i) := by rw [← ec]; rfl
          have hc2 : ((F k + i : Nat) : Int) < mI M (a + 117) 2 := by rw [n2]; omega
          have gk := (gb (F k + i) hc2).1.1
          have em : mI M (a + 117 + 24) (F k + i) = nt M (a + 115) (F k + i) := by rw [m1 (F k + i) (by omega), ← q5]
          unfold wr9 cw
          rw [bl, wsL_map, c21, ecx, ebg, enb]
          refine sr_cq _ (fun t ht => ?_)
          have w9 := w1 (B (F k + i) + t) (by omega)
          have k9 := wk (B (F k + i) + t) (by omega)
          have ci := gb.chq_int hc2 (b := t) (by rw [enb]; exact ht)
          rw [ebg, em] at ci
          rw [w9.2.1, w9.2.2] at ci
          have m0 : ((nt M (a + 115) (F k + i) : Int) : Rat) ≠ 0 := ic_ne (by rw [← em]; omega)
          show chq M (a + 117) (B (F k + i) + t) * f (mI M (a + 117 + 26) (B (F k + i) + t)).toNat = ((mL M (a + 21186) (B (F k + i) + t) * (nt M (a + 115) (F k + i) / mL M (a + 21187) (B (F k + i) + t)) : Int) : Rat) * f (mI M (a + 21185) (B (F k + i) + t)).toNat * ((nt M (a + 115) (F k + i) : Int) : Rat)⁻¹
          rw [inv_q ci m0, k9.2.1, k9.2.2.1, k9.1, w9.1]
          generalize ((up (B (F k + i) + t) * (nt M (a + 115) (F k + i) / dn (B (F k + i) + t)) : Int) : Rat) = A
          generalize f (to (B (F k + i) + t)).toNat = Y
          generalize ((nt M (a + 115) (F k + i) : Int) : Rat)⁻¹ = Z
          grind
        unfold leadQ ldA9
        rw [e23, Int.toNat_natCast, e25, e26, bl]
        constructor
        · rintro ⟨b, u1, u2, u3⟩
          refine ⟨_, List.mem_map.mpr ⟨b - B (F k + i), List.mem_range.mpr (by omega), rfl⟩, ?_⟩
          show J (mI M (a + 21185) (B (F k + i) + (b - B (F k + i)))).toNat
          rw [show B (F k + i) + (b - B (F k + i)) = b by omega, (wk b (by omega)).1, ← (w1 b (by omega)).1]
          exact u3
        · rintro ⟨y, y1, y2⟩
          obtain ⟨t, t3, t4⟩ := List.mem_map.mp y1
          have t5 := List.mem_range.mp t3
          rw [← t4] at y2
          have y3 : J (mI M (a + 21185) (B (F k + i) + t)).toNat := y2
          refine ⟨B (F k + i) + t, by omega, by omega, ?_⟩
          rw [(w1 _ (by omega)).1, ← (wk _ (by omega)).1]
          exact y3
      · rw [if_neg hi] at hc'
        cases hc'
  · rw [if_neg hk] at hx
    cases hx
end TSV
end
section
/-! The reference: explore, exactly, its loops. -/
section EXY
variable {G : mG} {d a g T R W C Z : Nat} {M M' M1 M2 M3 : mM} {E : Eg9} {tg : Int} {Nt9 : tP9} {ww pl lo hi : Nat → Int} {XV : List Int → Int → vrs} {ev : List Int → Nat → Nat → vrs} {cvS : List Int → Nat → vrs} {stp : List Int → List (Nat × Nat × Nat × Nat) → (Int × Int) × List Int} {tgI : Nat × Nat} {cms : List cm9}
theorem x_ex199 {xX : Int → mM → Prop} {n L w : Nat} {B F : Nat → Nat} {mu to up dn : Nat → Int} (hxX : ∀ M', FI (vF (a + 117)) M1 M' → mOk M' → Wd M' a → SvT M' (a + 117) (xtR M' a n) → mI M' (a + 117 + 30) 0 = 0 → xX (mI M1 a 16) M') (hb : bE Nt9 M a g T R W C Z E tg M1) (h29 : mI M1 a 29 = (n : Int)) (hn1 : 1 ≤ n) (xd : XD M1 a g n W L w L B) (hw : B L = w) (hF : F 0 = 0 ∧ F n = L ∧ ∀ k, k < n → F k ≤ F (k + 1) ∧ mI M1 (a + 107) k = (F k : Int) ∧ mI M1 (a + 108) k = ((F (k + 1) - F k : Nat) : Int)) (e1 : mu = nt M1 (a + 115)) (e2 : to = mI M1 (a + 21185)) (e3 : up = mL M1 (a + 21186)) (e4 : dn = mL M1 (a + 21187)) : ∀ (t k : Nat) (M2 : mM), k + t = n → tI M1 a n L w F B mu to up dn k (F k) (B (F k)) M2 → h_MM_explore_199 G (d + 1) a k M2 (fun r M' => i32 r ∧ RI0 Nt9 M' a ∧ FR M a M' ∧ xX r M') := by
  have hn5 := xd.1.2.2
  have w1 := hb.2.1.2.1
  have hg := hb.2.1.2.2.1.2
  have no : ∀ q : Nat, False → q ∈ nums a := fun _ z => z.elim
  have fl : ∀ {Mx : mM}, mOk Mx → FI (vF (a + 117)) M1 Mx → mI Mx a = mI M1 a := fun o f => f.2.2.2.2.2.2 a (fun z => by
    have z' : a + 117 ≤ a ∧ a ≤ a + 117 + 21067 := z
    omega)
  intro t
  induction t with
  | zero =>
    intro k M2 hk h
    have ek : k = n := by omega
    subst ek
    obtain ⟨o2, w2, f2, tt, tl⟩ := h
    have a2 := fl o2 f2
    rw [hF.2.1, hw] at tl
    obtain ⟨sv, my⟩ := exp_sv xd hw hF e1 e2 e3 e4 tl
    have svt := tl_svt tt tl hw sv.2.2.1 (fun j hj => by rw [e2]; exact (xd.2.2.2.1 j hj).1)
    refine k_MM_explore_199 o2 (i32s (by omega) (by omega)) ⟨w2.1.1, ?_⟩
    rw [a2, h29]
    refine ⟨fun _ => ⟨(hb.2.1.1 _ _).1, ?_, hb.1.trans (FR.fi f2 (fun x z => by
      have z' : a + 117 ≤ x ∧ x ≤ a + 117 + 21067 := z
      omega)), hxX M2 f2 o2 w2 svt (tl.1.2.2.2.2 0 (by decide))⟩, fun q => absurd (Int.le_refl _) q⟩
    have m2 := mv_sol o2 w1 f2
    have nv : ∀ x, vF (a + 117) x → ¬ (x = g ∨ (g + 13 ≤ x ∧ x ≤ g + 29)) := fun x z => by
      have z' : a + 117 ≤ x ∧ x ≤ a + 117 + 21067 := z
      omega
    have gd := gd_mv (hb.2.1.gd hb.2.2.2.2.1.2) w1 hg m2 no (fun _ z => z.elim) nv
    have R2 := m2.rfl_a w1 no
    have tp := w1.tape
    have l9 : ln M2 (a + 109) = (L : Int) := by rw [(m2.lst k109 (fun z => z)).1]; exact xd.2.2.2.2.1.1
    refine ⟨o2, w2, ⟨by rw [R2]; exact hb.2.2.1.1.sm (m2.lst tp.1 (fun z => z)), by rw [R2, (m2.lst tp.2.1 (fun z => z)).1]; exact hb.2.2.1.2⟩, ?_⟩
    rw [R2, hb.2.1.2.2.1.1]
    unfold RX
    rw [a2, h29, Int.toNat_natCast]
    refine ⟨by omega, sv, fun _ => gd, fun _ => ⟨hb.2.2.2.2.1.1, fun k' hk' => ?_, by rw [l9]; exact tt.2.2.1.1, by rw [l9]; exact tt.2.2.1.2.1, fun i hi => ?_⟩, hb.2.2.2.1⟩
    · rw [a2, h29] at hk'
      obtain ⟨t7, t8, t9, t10⟩ := tt.2.1.2 k' (by omega)
      rw [t7, t8, l9, my k' (by omega)]
      exact ⟨by omega, by omega, by omega, rfl⟩
    · rw [l9] at hi
      obtain ⟨i1, i2, i3, i4, -⟩ := tt.2.2.2.1 i (by omega)
      have := tt.1.2.2
      rw [i1, i2]
      exact ⟨by omega, by omega, by omega⟩
  | succ t ih =>
    intro k M2 hk h
    have o2 := h.1
    have w2 := h.2.1
    have a2 := fl o2 h.2.2.1
    refine k_MM_explore_199 o2 (i32s (by omega) (by omega)) ⟨w2.1.1, ?_⟩
    rw [a2, h29, show (k : Int) + 1 = ((k + 1 : Nat) : Int) by omega]
    refine ⟨fun q => absurd q (by omega), fun _ => (s_MM_tellState (d := d) h (by omega) (fun i hi => ?_)).mono (fun M3 t3 => ⟨t3.1, ih (k + 1) M3 (by omega) t3.2⟩)⟩
    rw [e1]
    have := (xd.2.2.2.2.2.2 i hi).2.2.1
    exact ⟨by omega, by omega⟩
theorem x_ex115 {xX : Int → mM → Prop} {X : (Int × Int) × Nat × List (List Int) × xt9} {Ok : List Int → Prop} (hev : ∀ sg i j, ev sg i j = vlq ww (cvS sg) pl 0 0 i j) (hstp : ∀ sg l, stp sg l = ((stq9 ww (cvS sg) pl lo hi l (fun v => sg.getD v 0)).1, (List.range W).map (stq9 ww (cvS sg) pl lo hi l (fun v => sg.getD v 0)).2)) (hok1 : ∀ sg l, Ok sg → (stp sg l).1.1 = 0 → Ok (stp sg l).2) (hok2 : ∀ sg, Ok sg → GOk ev cms sg) (hp : GP ww pl XV ev M1 g R W C T E tgI cms lo hi) (hkd : kdT X.2.2.2) (hxX : ∀ r M', xpR X a g W r M' → mI M' a 0 = mI M1 a 0 → xX r M') (hb : bE Nt9 M a g T R W C Z E tg M1) : ∀ (t k : Nat) (M2 : mM), 512 ≤ k + t → pI M1 a g T R W C Z E tg k M2 → k ≤ 512 → pX ev stp tgI cms Ok X a W k M2 → h_MM_explore_115 G (d + 9) a k M2 (fun r M' => i32 r ∧ RI0 Nt9 M' a ∧ FR M a M' ∧ xX r M') := by
  -- the loop has ended
  have fin : ∀ (k : Nat) (M2 : mM), k ≤ 512 → pI M1 a g T R W C Z E tg k M2 → pX ev stp tgI cms Ok X a W k M2 → ((mI M2 a 29 ≤ k) ∨ ¬ (mI M2 a 16 = 0)) → ∀ v56 : Int, v56 = (if mI M2 a 16 = 0 then (-1) else (k : Int) - 1) → i32 v56 ∧ ∀ M60, M60 = mUI M2 a 30 v56 → ∀ v63 : Int, v63 = (if mI M60 a 16 = 0 then (-1) else mI M60 a 17) → i32 v63 ∧ ∀ M67, M67 = mUI M60 a 12 v63 → ∀ v70 : Int, v70 = (if mI M67 a 16 = 0 then mI M67 a 29 else 0) → i32 v70 ∧ ∀ M74, M74 = mUI M67 a 29 v70 → h_MM_explore_199 G (d + 9) a 0 M74 (fun r M' => i32 r ∧ RI0 Nt9 M' a ∧ FR M a M' ∧ xX r M') := by
    intro k M2 hk h px hend v56 e56
    obtain ⟨x1, gg, hh⟩ := h
    have w2 := gg.2.1
    have i56 : i32 v56 := by rw [e56]; split <;> exact i32s (by omega) (by omega)
    refine ⟨i56, fun M60 e60 v63 e63 => ?_⟩
    obtain ⟨m60, f60⟩ := mv_fld i56 gg.1 w2 e60
    have i63 : i32 v63 := by
      rw [e63]
      split
      · exact ⟨by decide, by decide⟩
      · exact (m60.1 _ _).1
    refine ⟨i63, fun M67 e67 v70 e70 => ?_⟩
    obtain ⟨m67, f67⟩ := mv_fld i63 m60.1 m60.2.1 e67
    have i70 : i32 v70 := by
      rw [e70]
      split
      · exact (m67.1 _ _).1
      · exact ⟨by decide, by decide⟩
    refine ⟨i70, fun M74 e74 => ?_⟩
    obtain ⟨m74, f74⟩ := mv_fld i70 m67.1 m67.2.1 e74
    have mm := (m60.trans m67).trans m74
    have no : ∀ q : Nat, False → q ∈ nums a := fun _ z => z.elim
    have F74 : ∀ i, i ≠ 29 → i ≠ 12 → i ≠ 30 → mI M74 a i = mI M2 a i := fun i i1 i2 i3 => by rw [f74, if_neg i1, f67, if_neg i2, f60, if_neg i3]
    have b2 := hb.st x1.1 (fun q hq => hq) (fun x hx => hx) (fun i _ _ i16 i17 i23 i29 _ i40 => x1.2 i i16 i17 i23 i29 i40)
    have b74 := b2.st mm (fun _ z => z.elim) (fun x z => Or.inl z) (fun i _ i12 _ _ _ i29 i30 _ => F74 i i29 i12 i30)
    have w74 := b74.2.1.2.1
    have z0 : mI M74 a 0 = mI M1 a 0 := by rw [F74 0 (by decide) (by decide) (by decide)]; exact x1.2 0 (by decide) (by decide) (by decide) (by decide) (by decide)
    have z67 : mI M67 a 16 = mI M2 a 16 := by rw [f67, if_neg (by decide), f60, if_neg (by decide)]
    by_cases z : mI M2 a 16 = 0
    · have e29 : mI M74 a 29 = mI M2 a 29 := by rw [f74, if_pos rfl, e70, if_pos (by rw [z67]; exact z), f67, if_neg (by decide), f60, if_neg (by decide)]
      obtain ⟨n, L, w, B, F, y1, y2, y3, y4⟩ := hh z
      have h29 : mI M2 a 29 = (n : Int) := y1.1.1
      have kn : k = n := by
        rcases hend with q | q
        · omega
        · exact absurd z q
      subst kn
      have hg := gg.2.2.1.2
      have gs := gs_st w2 hg mm no (fun _ z => z.elim) (fun x z => by omega)
      have xd := y1.mv w2 mm no (fun _ z => z.elim) (fun x z => by omega) gs e29 (F74 40 (by decide) (by decide) (by decide))
      have c7 := (mm.cellL w2 no (offx (a := a) (o := 107) (by decide)) (by omega)).1
      have c8 := (mm.cellL w2 no (offx (a := a) (o := 108) (by decide)) (by omega)).1
      have hF : F 0 = 0 ∧ F k = L ∧ ∀ k', k' < k → F k' ≤ F (k' + 1) ∧ mI M74 (a + 107) k' = (F k' : Int) ∧ mI M74 (a + 108) k' = ((F (k' + 1) - F k' : Nat) : Int) := by rw [c7, c8]; exact y4
      have tz : TL M74 (a + 117) F B (nt M74 (a + 115)) (mI M74 (a + 21185)) (mL M74 (a + 21186)) (mL M74 (a + 21187)) 0 0 0 := tl_zero b74.2.2.2.2.2.1 b74.2.2.2.2.2.2.1 b74.2.2.2.2.2.2.2.1 b74.2.2.2.2.2.2.2.2 (by omega)
      have hW12 := gg.2.2.2.2.2.2.2.1.1.2.1
      have c5 := (mm.cellL w2 no (offx (a := a) (o := 105) (by decide)) (by omega)).1
      have c6 := (mm.cellL w2 no (offx (a := a) (o := 106) (by decide)) (by omega)).1
      have c85 := (mm.cellL w2 no (offx (a := a) (o := 21185) (by decide)) (by omega)).1
      have c86 := (mm.cellL w2 no (offx (a := a) (o := 21186) (by decide)) (by omega)).2
      have c87 := (mm.cellL w2 no (offx (a := a) (o := 21187) (by decide)) (by omega)).2
      obtain ⟨S, T9, x1', x2, x3, x4, x5, w9, x6, x7, x8, x9⟩ := px.1 z
      have lS : S.length = k := by omega
      have eX : X = ((0, 0), k, S, T9) := by
        rw [x1', show 513 - k = (512 - k) + 1 by omega]
        exact exq_n (List.getElem?_eq_none (by omega))
      have ew : w9 = w := by
        have := y1.2.1.1
        omega
      have z16 : mI M74 a 16 = 0 := by rw [F74 16 (by decide) (by decide) (by decide)]; exact z
      have hxx : ∀ M', FI (vF (a + 117)) M74 M' → mOk M' → Wd M' a → SvT M' (a + 117) (xtR M' a k) → mI M' (a + 117 + 30) 0 = 0 → xX (mI M74 a 16) M' := fun M' f' o' w' svt hs0 => by
        have sT : XTr M' a g W X.2.2.1 X.2.2.2 → SvT M' (a + 117) X.2.2.2 := fun xt => by
          have e := xt.2.2.1
          rw [← e, eX]
          show SvT M' (a + 117) (xtR M' a S.length)
          rw [lS]
          exact svt
        refine hxX _ _ (Or.inr ⟨by rw [eX], z16, ?_, ?_, (fun xt => ⟨xt, sT xt, hkd, hs0⟩) ?_⟩) (by rw [f'.2.2.2.2.2.2 a (fun z => by have z' : a + 117 ≤ a ∧ a ≤ a + 117 + 21067 := z; omega)]; exact z0)
        · rw [f'.2.2.2.2.2.2 a (fun z => by have z' : a + 117 ≤ a ∧ a ≤ a + 117 + 21067 := z; omega), f74, if_neg (by decide), f67, if_pos rfl, e63, if_pos (by rw [f60, if_neg (by decide)]; exact z)]
        · rw [f'.2.2.2.2.2.2 a (fun z => by have z' : a + 117 ≤ a ∧ a ≤ a + 117 + 21067 := z; omega), f74, if_neg (by decide), f67, if_neg (by decide), f60, if_pos rfl, e56, if_pos z]
        · have mv' := mv_sol o' w74 f'
          have nv : ∀ x, vF (a + 117) x → a + 117 ≤ x ∧ x ≤ a + 117 + 21067 := fun x z => z
          have gs' := gs_st w74 hg mv' no (fun _ z => z.elim) (fun x z => by have := nv x z; omega)
          have aI' := (mv'.fld w74 no (fun z => by have := nv _ z; omega)).1
          have xd' := xd.mv w74 mv' no (fun _ z => z.elim) (fun x z => by have := nv x z; omega) gs' (by rw [aI']) (by rw [aI'])
          rw [eX]
          refine XTr.sol (M := M74) ?_ w74 mv' nv hW12 aI' ⟨L, w, B, by rw [lS]; exact xd', y2⟩
          refine ⟨by rw [e29]; exact x2, by rw [SmR_cg (M := M2) hW12 (fun j _ => by rw [c5])]; exact x3, ?_, w9, by rw [F74 40 (by decide) (by decide) (by decide)]; exact x6, fun j hj => by rw [c86, c87]; exact x8 j hj, ⟨L, w, B, by rw [lS]; exact xd, y2⟩⟩
          rw [lS, ← x4]
          refine xtR_cg (L := L) (fun k' _ => by rw [c6]) (fun k' _ => by rw [c7, c8]; exact ⟨rfl, rfl⟩) (fun k' hk' => ?_) (fun i hi => ?_)
          · have mF : ∀ j, k' + 1 + j ≤ k → F (k' + 1) ≤ F (k' + 1 + j) := fun j => by
              induction j with
              | zero => intro _; exact Nat.le_refl _
              | succ j ih =>
                intro hj
                have a1 := ih (by omega)
                have a2 := (y4.2.2 (k' + 1 + j) (by omega)).1
                have e : k' + 1 + (j + 1) = k' + 1 + j + 1 := by omega
                rw [e]
                omega
            have m1 := mF (k - (k' + 1)) (by omega)
            rw [show k' + 1 + (k - (k' + 1)) = k by omega, y4.2.1] at m1
            obtain ⟨q1, q2, q3⟩ := y4.2.2 k' hk'
            rw [q2, q3]
            omega
          · unfold cmQ
            rw [show nt M74 (a + 109) = nt M2 (a + 109) from funext (fun j => (mm.lst k109 (fun z => z)).2.1 j), show nt M74 (a + 111) = nt M2 (a + 111) from funext (fun j => (mm.lst k111 (fun z => z)).2.1 j), show nt M74 (a + 113) = nt M2 (a + 113) from funext (fun j => (mm.lst k113 (fun z => z)).2.1 j), show nt M74 (a + 115) = nt M2 (a + 115) from funext (fun j => (mm.lst k115 (fun z => z)).2.1 j), brR_cg (M := M2) (M' := M74) (fun _ _ _ => by rw [c85, c86, c87]; exact ⟨rfl, rfl, rfl⟩)]
      refine x_ex199 hxx b74 (by rw [e29]; exact h29) y1.1.2.1 xd y2 hF rfl rfl rfl rfl k 0 M74 (by omega) ⟨b74.2.1.1, w74, FI.refl, xd.tt y2 hF, ?_⟩
      rw [y4.1, y1.2.2.2.2.2.1.1]
      exact tz
    · have e29 : mI M74 a 29 = 0 := by rw [f74, if_pos rfl, e70, if_neg (by rw [z67]; exact z)]
      have key := b74.ri0 e29
      refine k_MM_explore_199 b74.2.1.1 ⟨by decide, by decide⟩ ⟨w74.1.1, fun _ => ⟨(b74.2.1.1 _ _).1, key.1, key.2, hxX _ _ (Or.inl ?_) z0⟩, fun q => absurd (by rw [e29]; exact Int.le_refl _) q⟩
      obtain ⟨x1', x2⟩ := px.2 z
      have z60 : ¬ mI M60 a 16 = 0 := by rw [f60, if_neg (by decide)]; exact z
      rw [x1']
      refine ⟨z, by rw [F74 16 (by decide) (by decide) (by decide)], ?_, ?_, e29, b74.2.2.2.2.2.2.2.2 0 (by decide)⟩
      · rw [f74, if_neg (by decide), f67, if_pos rfl, e63, if_neg z60, f60, if_neg (by decide)]
      · rw [f74, if_neg (by decide), f67, if_neg (by decide), f60, if_pos rfl, e56, if_neg z]
        omega
  intro t
  induction t with
  | zero =>
    intro k M2 hk h hk5 px
    have w2 := h.2.1.2.1
    refine k_MM_explore_115 h.2.1.1 (i32s (by omega) (by omega)) ⟨w2.1.1, fun q => fin k M2 hk5 h px q, fun q => ?_⟩
    have z : mI M2 a 16 = 0 := Classical.byContradiction (fun y => q (Or.inr y))
    have q1 : ¬ (mI M2 a 29 ≤ k) := fun y => q (Or.inl y)
    obtain ⟨n, L, w, B, F, y1, y2, y3, y4⟩ := h.2.2 z
    have := y1.1
    omega
  | succ t ih =>
    intro k M2 hk h hk5 px
    have w2 := h.2.1.2.1
    refine k_MM_explore_115 h.2.1.1 (i32s (by omega) (by omega)) ⟨w2.1.1, fun q => fin k M2 hk5 h px q, fun q => ?_⟩
    have z : mI M2 a 16 = 0 := Classical.byContradiction (fun y => q (Or.inr y))
    have q1 : ¬ (mI M2 a 29 ≤ k) := fun y => q (Or.inl y)
    obtain ⟨n, L, w, B, F, y1, y2, y3, y4⟩ := h.2.2 z
    have hn := y1.1
    have kn : k < n := by omega
    obtain ⟨S, T9, x1', x2, x3, x4, x5, w9, x6, x7, x8, x9⟩ := px.1 z
    have hR := h.2.1.2.2.2.2.2.2.2.1.1.1
    have gs12 : Gs M1 M2 g := h.1.gs hb.2.1.2.1 hb.2.1.2.2.1.2
    have lS : S.length = n := by omega
    have ew : w9 = w := by
      have := y1.2.1.1
      omega
    subst ew
    have gk : S[k]? = some (lsR M2 a W k) := by
      rw [← x3, lS]
      exact SmR_get kn
    have okk : Ok (lsR M2 a W k) := x9 _ (List.mem_of_getElem? gk)
    have eL : (∀ k', k' < k → (mI M2 (a + 107) k').toNat + (mI M2 (a + 108) k').toNat ≤ L) := fun k' hk' => by
      have mF : ∀ j, k' + 1 + j ≤ k → F (k' + 1) ≤ F (k' + 1 + j) := fun j => by
        induction j with
        | zero => intro _; exact Nat.le_refl _
        | succ j ih =>
          intro hj
          have a1 := ih (by omega)
          have a2 := (y4.2.2 (k' + 1 + j) (by omega)).1
          have e : k' + 1 + (j + 1) = k' + 1 + j + 1 := by omega
          rw [e]
          omega
      have m1 := mF (k - (k' + 1)) (by omega)
      rw [show k' + 1 + (k - (k' + 1)) = k by omega, y4.2.1] at m1
      obtain ⟨q1, q2, q3⟩ := y4.2.2 k' hk'
      rw [q2, q3]
      omega
    refine (x_MM_state0 (d := d) (S9 := S) (T9 := T9) hev hstp (hp.gs gs12 hR) rfl (hok2 _ okk) x2 x3 x4 eL x7 x8 h.2.1 y1 y2 z kn).mono (fun M3 t3 => ⟨t3.1, ?_⟩)
    rw [show (k : Int) + 1 = ((k + 1 : Nat) : Int) by omega]
    have fu : 513 - k = (512 - k) + 1 := by omega
    rw [fu] at x1'
    refine ih (k + 1) M3 (by omega) (pI.next h.1 t3.2.1 y1 y2 kn y4) (by omega) ⟨fun z3 => ?_, fun z3 => ?_⟩
    · rcases t3.2.2 with ⟨q, -⟩ | ⟨-, gq, -, -⟩
      · exact absurd z3 q
      have g1 := gq.1
      have okS := ssq_ok (tg := tgI) (cms := cms) (nb := nbx9 T9) (ev := ev) hok1 okk x9
      obtain ⟨i1, i2, i3, i4, i5, i6, L2, w2, i7, i8, i9, i10, i11, i12, i13⟩ := gq
      refine ⟨_, T9 ++ [((ssq9 ev stp tgI cms (lsR M2 a W k) (nbx9 T9) S).2.2.1, (ssq9 ev stp tgI cms (lsR M2 a W k) (nbx9 T9) S).2.2.2)], ?_, i2, i3, ?_, ?_, w2, i10, ?_, i13, okS⟩
      · rw [x1', exq_s gk (by rw [g1]), show 513 - (k + 1) = 512 - k by omega]
      · rw [xtR_s, i4]
        unfold stR
        rw [i5, i7, i8.2, Int.toNat_natCast, Int.toNat_natCast, i11]
      · have := t3.2.1.2.2.2 z3
        obtain ⟨-, n2, L3, w3, B3, hn2, -, -, -, -, hx2⟩ := this
        have := hx2.1
        omega
      · rw [nbx_app]
        show nbx9 T9 + (nbq9 _ + 0) = w2
        omega
    · rcases t3.2.2 with ⟨q, e⟩ | ⟨q, -⟩
      · rw [x1', exq_f gk (by rw [e]; exact q), e]
        exact ⟨rfl, rfl⟩
      · exact absurd q z3
theorem x_ex81 {xX : Int → mM → Prop} {X : (Int × Int) × Nat × List (List Int) × xt9} {Ok : List Int → Prop} {s0 : List Int} (hev : ∀ sg i j, ev sg i j = vlq ww (cvS sg) pl 0 0 i j) (hstp : ∀ sg l, stp sg l = ((stq9 ww (cvS sg) pl lo hi l (fun v => sg.getD v 0)).1, (List.range W).map (stq9 ww (cvS sg) pl lo hi l (fun v => sg.getD v 0)).2)) (hok1 : ∀ sg l, Ok sg → (stp sg l).1.1 = 0 → Ok (stp sg l).2) (hok2 : ∀ sg, Ok sg → GOk ev cms sg) (hp : GP ww pl XV ev M1 g R W C T E tgI cms lo hi) (hkd : kdT X.2.2.2) (hxX : ∀ r M', xpR X a g W r M' → mI M' a 0 = mI M1 a 0 → xX r M') (hX : X = xpl9 ev stp tgI cms s0) (hs0 : s0 = (List.range W).map (fun v => mI M1 (g + 21) v)) (hok0 : Ok s0) (hb : bE Nt9 M a g T R W C Z E tg M1) (z16 : mI M1 a 16 = 0) (h29 : mI M1 a 29 = 1) (h40 : mI M1 a 40 = 0) (hl : ln M1 (a + 109) = 0 ∧ ln M1 (a + 111) = 0 ∧ ln M1 (a + 113) = 0 ∧ ln M1 (a + 115) = 0) : ∀ (t v : Nat) (M2 : mM), v + t = W → Mv (fun _ => False) (fun x => x = a + 105) M1 a M2 → (∀ v', v' < v → mI M2 (a + 105) v' = mI M1 (g + 21) v') → h_MM_explore_81 G (d + 9) a v M2 (fun r M' => i32 r ∧ RI0 Nt9 M' a ∧ FR M a M' ∧ xX r M') := by
  have gg1 := hb.2.1
  have w1 := gg1.2.1
  have hg := gg1.2.2.1.2
  have hD := gg1.2.2.2.2.2.2.2.1
  have hBd := hD.1
  have no : ∀ q : Nat, False → q ∈ nums a := fun _ z => z.elim
  intro t
  induction t with
  | zero =>
    intro v M2 hv m hn
    have ev : v = W := by omega
    subst ev
    have w2 := m.2.1
    have aI := (m.fld w1 no (by omega)).1
    have b2 := hb.st m (fun _ z => z.elim) (fun x z => Or.inr (Or.inl (by omega))) (fun i _ _ _ _ _ _ _ _ => by rw [aI])
    have gg2 := b2.2.1
    have gs := gs_st w1 hg m no (fun _ z => z.elim) (fun x z => by omega)
    refine k_MM_explore_81 gg2.1 (i32s (by omega) (by omega)) ⟨w2.1.1, ?_⟩
    rw [gg2.2.2.1.1, gg2.2.2.2.2.2.1.2.1]
    refine ⟨(w2.gp hg).1, fun _ => ?_, fun q => absurd (Int.le_refl _) q⟩
    have l : ∀ {q}, q ∈ nums a → ln M1 q = 0 → ln M2 q = ((0 : Nat) : Int) := fun hq hz => by rw [(m.lst hq (fun z => z)).1, hz]; rfl
    have xd : XD M2 a g 1 v 0 0 0 (fun _ => 0) := ⟨⟨by rw [aI, h29]; rfl, by omega, by omega⟩, ⟨by rw [aI, h40]; rfl, by omega⟩, fun k u hk hu => ?_, fun j hj => absurd hj (by omega), ⟨l k109 hl.1, l k111 hl.2.1, l k113 hl.2.2.1, l k115 hl.2.2.2⟩, ⟨rfl, Nat.le_refl _, Nat.le_refl _⟩, fun i hi => absurd hi (by omega)⟩
    · refine x_ex115 hev hstp hok1 hok2 (hp.gs gs hBd.1) hkd (fun r M' u v => hxX r M' u (v.trans (by rw [aI]))) b2 512 0 M2 (by omega) ⟨xF.refl gg2.1 w2, gg2, fun _ => ⟨1, 0, 0, fun _ => 0, fun _ => 0, xd, rfl, by omega, rfl, rfl, fun k' hk' => absurd hk' (by omega)⟩⟩ (by omega) ⟨fun _ => ⟨[s0], [], hX, by rw [aI, h29]; rfl, ?_, rfl, by show (1 : Nat) ≤ 512; omega, 0, by rw [aI, h40]; rfl, rfl, fun j hj => absurd hj (by omega), fun s hs => by rw [List.mem_singleton.mp hs]; exact hok0⟩, fun z => absurd (by rw [aI]; exact z16) z⟩
      show SmR M2 a v 1 = [s0]
      rw [SmR_s]
      show [] ++ [lsR M2 a v 0] = [s0]
      rw [hs0, List.nil_append]
      unfold lsR
      exact congrArg (fun x => [x]) (List.map_congr_left (fun u hu => by rw [show 12 * 0 + u = u by omega]; exact hn u (List.mem_range.mp hu)))
    · have k0 : k = 0 := by omega
      subst k0
      obtain ⟨v1, v2, v3, -⟩ := hD.2.2.2.1 u hu
      rw [(gs.2.1 19 (by omega) (by omega)).1, (gs.2.1 20 (by omega) (by omega)).1, show 12 * 0 + u = u by omega, hn u hu]
      exact ⟨v2, v3⟩
  | succ t ih =>
    intro v M2 hv m hn
    have w2 := m.2.1
    have aI := (m.fld w1 no (by omega)).1
    have b2 := hb.st m (fun _ z => z.elim) (fun x z => Or.inr (Or.inl (by omega))) (fun i _ _ _ _ _ _ _ _ => by rw [aI])
    have gg2 := b2.2.1
    have gs := gs_st w1 hg m no (fun _ z => z.elim) (fun x z => by omega)
    have A5 : mK M2 (a + 105) = 30 ∧ mN M2 (a + 105) = 6144 := w2.1.2.2.2.2.2.2.2.2.1.1
    have b12 : ((0 : Int) ≤ (v : Int) ∧ (v : Int) < ((12 : Nat) : Int)) := by omega
    refine k_MM_explore_81 gg2.1 (i32s (by omega) (by omega)) ⟨w2.1.1, ?_⟩
    rw [gg2.2.2.1.1, gg2.2.2.2.2.2.1.2.1, show mR M2 a 31 = a + 105 from w2.1.2.2.2.2.2.1.1, show mR M2 g 16 = g + 21 from (w2.gp hg).2.2.1.2.2.2.1, Int.toNat_natCast, (gs.2.1 21 (by omega) (by omega)).1]
    refine ⟨(w2.gp hg).1, fun q => absurd q (by omega), fun _ => ⟨(w2.gp hg).2.2.2.2.1.2.2.2.1, by rw [(w2.gp hg).2.2.2.2.1.2.2.2.2]; exact b12, A5.1, by rw [A5.2]; omega, fun M3 e3 => ?_⟩⟩
    obtain ⟨m3, f3, l3⟩ := mv_cell (gg1.1 _ _).1 gg2.1 w2 (show a ≤ a + 105 by omega) (offx (a := a) (o := 105) (by decide)) e3
    rw [show (v : Int) + 1 = ((v + 1 : Nat) : Int) by omega]
    refine ih (v + 1) M3 (by omega) (m.trans m3) (fun v' hv' => ?_)
    rw [f3]
    by_cases y : v' = v
    · rw [if_pos ⟨rfl, y⟩, y]
    · rw [if_neg (fun z => y z.2)]
      exact hn v' (by omega)
theorem x_MM_explore {X : (Int × Int) × Nat × List (List Int) × xt9} {Ok : List Int → Prop} {s0 : List Int} (hev : ∀ sg i j, ev sg i j = vlq ww (cvS sg) pl 0 0 i j) (hstp : ∀ sg l, stp sg l = ((stq9 ww (cvS sg) pl lo hi l (fun v => sg.getD v 0)).1, (List.range W).map (stq9 ww (cvS sg) pl lo hi l (fun v => sg.getD v 0)).2)) (hok1 : ∀ sg l, Ok sg → (stp sg l).1.1 = 0 → Ok (stp sg l).2) (hok2 : ∀ sg, Ok sg → GOk ev cms sg) (hX : X = xpl9 ev stp tgI cms s0) (hok0 : Ok s0) (hG : mI M a 11 ≠ 0 → GdX ww pl XV ev Nt9.2.2 M (mR M a 9) W tgI cms lo hi s0) (h : RI0 Nt9 M a) : Ci G y_MM_explore (d + 10) [vr a] M (fun r M' => i32 r ∧ RI0 Nt9 M' a ∧ FR M a M' ∧ ((mI M a 11 = 0 ∧ r = 0 ∧ xU M M' a ∧ mI M' a 0 = 1) ∨ (mI M a 11 ≠ 0 ∧ xpR X a (mR M a 9) W r M' ∧ mI M' a 0 = 0))) := by
  have wd := h.2.1
  refine k_MM_explore h.1 ⟨wd.1.1, fun v3 e3 M8 e8 => ?_⟩
  have i3 : i32 v3 := by rw [e3]; split <;> exact ⟨by decide, by decide⟩
  obtain ⟨r8, F8, f8⟩ := h.step i3 ⟨by decide, by decide, by decide⟩ e8
  obtain ⟨o8, w8, t8, x8⟩ := id r8
  refine ⟨fun q M12 e12 M14 e14 => ?_, fun q => ⟨⟨by decide, by decide⟩, r8, F8.1, Or.inl ?_⟩⟩
  rotate_left
  · have z : mI M8 a 0 = v3 := by rw [f8, if_pos rfl]
    rw [z] at q
    by_cases y : mI M a 11 = 0
    · exact ⟨y, rfl, xU.one e8, by rw [z, e3, if_pos y]⟩
    · rw [if_neg y] at e3
      omega
  have kn : mI M8 a 11 ≠ 0 := fun z => by
    rw [f8, if_pos rfl] at q
    rw [f8, if_neg (by decide)] at z
    rw [if_pos z] at e3
    omega
  have hg := w8.g9
  have kn0 : mI M a 11 ≠ 0 := fun z => kn (by rw [f8, if_neg (by decide)]; exact z)
  have gs8 : Gs M M8 (mR M a 9) := by
    have m8 := (mv_fld i3 h.1 wd e8).1
    exact gs_st wd wd.g9 m8 (fun _ z => z.elim) (fun _ z => z.elim) (fun x z => by have := wd.g9; omega)
  have r98 : mR M8 a 9 = mR M a 9 := by rw [e8]; rfl
  obtain ⟨T, R, C, Z, E, tg, g1, g2, g3, g4, g5, g6, g7, gp0, gi0⟩ := (hG kn0).gs gs8
  rw [← r98] at g1 g3 g4 g5 g7 gp0 gi0
  generalize hgm : mR M8 a 9 = g at *
  have gg8 : GG M8 a g T R W C Z E tg := ⟨o8, w8, ⟨hgm, hg⟩, g1, g2, g3, g4, g5, g6⟩
  have no : ∀ q : Nat, False → q ∈ nums a := fun _ z => z.elim
  obtain ⟨m12, f12⟩ := mv_fld (v := 1) ⟨by decide, by decide⟩ o8 w8 e12
  obtain ⟨m14, f14⟩ := mv_fld (v := 0) ⟨by decide, by decide⟩ m12.1 m12.2.1 e14
  have up0 : ∀ {Mx My : mM}, Wd Mx a → Mv (fun _ => False) (fun x => x = a) Mx a My → Mv (xP a) (fun x => x = a) Mx a My := fun wx m => m.mono (fun _ z => z.elim) (fun x z => z) (fun q hq => wx.lt (xP_in hq))
  have m814 := (up0 w8 m12).trans (up0 m12.2.1 m14)
  -- the lists are emptied
  have emp : ∀ {p : Nat} {Mx My : mM}, p ∈ nums a → xP a p → Mv (xP a) (fun x => x = a) M8 a Mx → My = mUI Mx p 1 0 → Mv (xP a) (fun x => x = a) M8 a My ∧ mI My a = mI Mx a ∧ ln My p = 0 ∧ ∀ q, q ∈ nums a → q ≠ p → ln My q = ln Mx q := fun {p Mx My} hp hx mx e => by
    have wx := mx.2.1
    have b : 0 ≤ ln Mx p := (wx.nu hp).2.2.2.1.1
    obtain ⟨my, ly, -, -⟩ := mv_set mx.1 wx hp (v := 0) (by omega) b e
    exact ⟨mx.trans (my.mono (fun q hq => by rw [hq]; exact hx) (fun _ z => z.elim) (fun q hq => wx.lt (xP_in hq))), (my.fld wx (fun q hq => by rw [hq]; exact hp) (fun z => z)).1, ly, fun q hq hne => (my.lst hq hne).1⟩
  have R6 : ∀ {Mx : mM}, Wd Mx a → mR Mx a 35 = a + 109 ∧ mR Mx a 36 = a + 111 ∧ mR Mx a 37 = a + 113 ∧ mR Mx a 38 = a + 115 ∧ mR Mx a 39 = a + 117 := fun w => ⟨w.1.2.2.2.2.2.1.2.2.2.2.1, w.1.2.2.2.2.2.1.2.2.2.2.2.1, w.1.2.2.2.2.2.1.2.2.2.2.2.2.1, w.1.2.2.2.2.2.1.2.2.2.2.2.2.2.1, w.1.2.2.2.2.2.1.2.2.2.2.2.2.2.2⟩
  have w14 := m814.2.1
  rw [(R6 w14).1]
  refine ⟨(w14.nu k109).1, fun M17 e17 => ?_⟩
  obtain ⟨m17, a17, l17, u17⟩ := emp k109 (by show a + 109 = a + 99 ∨ a + 109 = a + 109 ∨ a + 109 = a + 111 ∨ a + 109 = a + 113 ∨ a + 109 = a + 115; omega) m814 e17
  have w17 := m17.2.1
  rw [(R6 w17).2.1]
  refine ⟨(w17.nu k111).1, fun M20 e20 => ?_⟩
  obtain ⟨m20, a20, l20, u20⟩ := emp k111 (by show a + 111 = a + 99 ∨ a + 111 = a + 109 ∨ a + 111 = a + 111 ∨ a + 111 = a + 113 ∨ a + 111 = a + 115; omega) m17 e20
  have w20 := m20.2.1
  rw [(R6 w20).2.2.1]
  refine ⟨(w20.nu k113).1, fun M23 e23 => ?_⟩
  obtain ⟨m23, a23, l23, u23⟩ := emp k113 (by show a + 113 = a + 99 ∨ a + 113 = a + 109 ∨ a + 113 = a + 111 ∨ a + 113 = a + 113 ∨ a + 113 = a + 115; omega) m20 e23
  have w23 := m23.2.1
  rw [(R6 w23).2.2.2.1]
  refine ⟨(w23.nu k115).1, fun M26 e26 => ?_⟩
  obtain ⟨m26, a26, l26, u26⟩ := emp k115 (by show a + 115 = a + 99 ∨ a + 115 = a + 109 ∨ a + 115 = a + 111 ∨ a + 115 = a + 113 ∨ a + 115 = a + 115; omega) m23 e26
  have w26 := m26.2.1
  have hin : ∀ q, xP a q → q ∈ nums a := fun q hq => xP_in hq
  have unP : ∀ q, xP a q → q = a + 99 ∨ q = a + 109 ∨ q = a + 111 ∨ q = a + 113 ∨ q = a + 115 := fun q hq => hq
  have ag26 := ag_mv w8 m26 hin (fun x z => by omega)
  have S26 := x8.2.1.ag ag26
  have F26 : ∀ i, i ≠ 29 → i ≠ 40 → mI M26 a i = mI M8 a i := fun i i1 i2 => by rw [a26, a23, a20, a17, f14, if_neg i2, f12, if_neg i1]
  have v29 : mI M26 a 29 = 1 := by rw [a26, a23, a20, a17, f14, if_neg (by decide), f12, if_pos rfl]
  have v40 : mI M26 a 40 = 0 := by rw [a26, a23, a20, a17, f14, if_pos rfl]
  have gs26 := gs_st w8 hg m26 hin (fun q hq z => by
    have z' : q = g + 1 ∨ q = g + 3 ∨ q = g + 5 ∨ q = g + 7 ∨ q = g + 9 ∨ q = g + 11 ∨ q = g + 30 ∨ q = g + 32 ∨ q = g + 34 := z
    have := unP q hq
    omega) (fun x z => by omega)
  have R26 := m26.rfl_a w8 hin
  have gg26 := gg8.gs m26.1 w26 (by rw [R26]) gs26
  have FR26 := F8.1.trans (FR.mv m26 hin (fun x z => by omega))
  have k109z : ln M26 (a + 109) = 0 := by rw [u26 _ k109 (by omega), u23 _ k109 (by omega), u20 _ k109 (by omega), l17]
  have k111z : ln M26 (a + 111) = 0 := by rw [u26 _ k111 (by omega), u23 _ k111 (by omega), l20]
  have k113z : ln M26 (a + 113) = 0 := by rw [u26 _ k113 (by omega), l23]
  have tp := w8.tape
  have s13 := w8.1.2.1
  have t26 : Tpl Nt9 M26 (mR M26 a 1) ∧ ln M26 (mR M26 a 2) ≤ 16384 := ⟨by rw [R26]; exact t8.1.sm (m26.lst tp.1 (fun z => by have := unP _ z; omega)), by rw [R26, (m26.lst tp.2.1 (fun z => by have := unP _ z; omega)).1]; exact t8.2⟩
  rw [(R6 w26).2.2.2.2]
  refine ⟨S26.1.1, (s_MS_clear m26.1 S26).mono (fun M29 t29 => ?_)⟩
  obtain ⟨o29, f29, S29, s2, s3, s30⟩ := t29
  have m29 := mv_sol o29 w26 f29
  have w29 := m29.2.1
  have R29 := m29.rfl_a w26 no
  have nv : ∀ x, vF (a + 117) x → a + 117 ≤ x ∧ x ≤ a + 117 + 21067 := fun x z => z
  have a29 := (m29.fld w26 no (fun z => by have := nv _ z; omega)).1
  have gs29 := gs_st w26 hg m29 no (fun _ z => z.elim) (fun x z => by have := nv x z; omega)
  have gg29 := gg26.gs o29 w29 (by rw [R29]) gs29
  have tp26 := w26.tape
  have b29 : bE Nt9 M a g T R W C Z E tg M29 := ⟨FR26.trans (FR.fi f29 (fun x z => by have := nv x z; omega)), gg29, ⟨by rw [R29]; exact t26.1.sm (m29.lst tp26.1 (fun z => z)), by rw [R29, (m29.lst tp26.2.1 (fun z => z)).1]; exact t26.2⟩, by rw [a29, F26 48 (by decide) (by decide), F26 11 (by decide) (by decide)]; exact x8.2.2.2.2, ⟨by rw [a29, F26 11 (by decide) (by decide)]; exact kn, g3.2.1.symm.trans g7.1, g3.1.symm.trans g7.2.1, g3.2.2.1.symm.trans g7.2.2.1, g7.2.2.2⟩, S29, s2, s3, s30⟩
  refine ⟨o29, w29.1.1, fun M33 e33 => ?_⟩
  obtain ⟨m33, f33⟩ := mv_fld (v := 0) ⟨by decide, by decide⟩ o29 w29 e33
  have b33 := b29.st m33 (fun _ z => z.elim) (fun x z => Or.inl z) (fun i _ _ i16 _ _ _ _ _ => by rw [f33, if_neg i16])
  have ls : ∀ {q}, q ∈ nums a → ln M33 q = ln M26 q := fun hq => by rw [(m33.lst hq (fun z => z)).1, (m29.lst hq (fun z => z)).1]
  have gs829 : Gs M8 M33 g := (gs26.trans gs29).trans (gs_st w29 hg m33 no (fun _ z => z.elim) (fun x z => by omega))
  have gp33 := gp0.gs gs829 g5.1.1
  have key := x_ex81 (G := G) (d := d) (xX := fun r M' => (mI M a 11 = 0 ∧ r = 0 ∧ xU M M' a ∧ mI M' a 0 = 1) ∨ (mI M a 11 ≠ 0 ∧ xpR X a (mR M a 9) W r M' ∧ mI M' a 0 = 0)) hev hstp hok1 hok2 gp33 (by rw [hX]; exact xpl_kd (fun cm hc => by
    obtain ⟨i, hi⟩ := List.getElem?_of_mem hc
    rcases (gp33.2.2.2.2.2.2 i cm hi).1 with y | y
    · exact Or.inl y.1
    · exact Or.inr y.1)) (fun r M' u v => Or.inr ⟨kn0, by rw [← r98]; exact u, v.trans (by rw [f33, if_neg (by decide), a29, F26 0 (by decide) (by decide), f8, if_pos rfl, e3, if_neg kn0])⟩) hX (by rw [(gs829.2.1 21 (by omega) (by omega)).1]; exact gi0) hok0 b33 (by rw [f33, if_pos rfl]) (by rw [f33, if_neg (by decide), a29]; exact v29) (by rw [f33, if_neg (by decide), a29]; exact v40) ⟨by rw [ls k109]; exact k109z, by rw [ls k111]; exact k111z, by rw [ls k113]; exact k113z, by rw [ls k115]; exact l26⟩ W 0 M33 (by omega) (Mv.refl b33.2.1.1 b33.2.1.2.1 (fun _ z => z.elim)) (fun v' hv' => absurd hv' (by omega))
  exact key
end EXY
end
section
/-! The reference's draft is the game: exploring it comes to what the words tell. -/
section GPO
variable {G : mG} {d a g R W C Z T n : Nat} {M : mM} {E : Eg9} {tg : Int} {γ : gW9} {sg : List Int}
/-- what a resolved name is worth in a state -/
noncomputable def XVg (γ : gW9) (sg : List Int) (x : Int) : vrs := if x < 100 then fvs γ.1 γ.2.1 γ.2.2.1 γ.2.2.2.1 γ.2.2.2.2.1 (fun v => sg.getD v 0) γ.2.2.2.2.2.1.reverse x.toNat else (0, sg.getD (x - 100).toNat 0, 1)
/-- what a rule is worth in a state -/
noncomputable abbrev evG (γ : gW9) : List Int → Nat → Nat → vrs := evq γ.1 γ.2.1 γ.2.2.1 γ.2.2.2.1 γ.2.2.2.2.1 γ.2.2.2.2.2.1
theorem xvg_fv {l1 l2 : List nm9} {e : nm9} (h : γ.2.2.2.2.2.1 = l1 ++ e :: l2) (h3 : e.2.1 ≠ 3) (hr : rcn l1 < 100) : XVg γ sg ((rcn l1 : Nat) : Int) = nvs γ.1 γ.2.1 γ.2.2.1 γ.2.2.2.1 γ.2.2.2.2.1 (fun v => sg.getD v 0) e l1.reverse := by
  unfold XVg
  rw [if_pos (show ((rcn l1 : Nat) : Int) < 100 by omega), Int.toNat_natCast, h]
  have e9 : (l1 ++ e :: l2).reverse = l2.reverse ++ e :: l1.reverse := by simp
  have e8 := fvs_at (w := γ.1) (pl := γ.2.1) (nq := γ.2.2.1) (sm := γ.2.2.2.1) (N := γ.2.2.2.2.1) (sg := fun v => sg.getD v 0) (r := l1.reverse) h3 l2.reverse
  rw [rcn_rev] at e8
  rw [e9]
  exact e8
theorem xvg_v {v : Nat} : XVg γ sg (100 + (v : Int)) = (0, sg.getD v 0, 1) := by
  unfold XVg
  rw [if_neg (show ¬ (100 + (v : Int) < 100) by omega), show (100 + (v : Int) - 100).toNat = v by omega]
theorem leaf_xv {r l : List nm9} {nv : Nat → Int} (hr : γ.2.2.2.2.2.1 = r ++ l) (hR : rcn γ.2.2.2.2.2.1 ≤ 60) (hnv : Nvq γ.1 γ.2.2.1 γ.2.2.2.1 r nv) : ∀ k, (γ.1 k = 1 ∨ γ.1 k = 2 ∨ γ.1 k = 12 ∨ γ.1 k = 13) → (γ.1 k = 1 → E9 γ.2.2.2.1 r 0 k ≠ -1) → cvn9 γ.1 (XVg γ sg) nv k = cvs γ.1 γ.2.1 γ.2.2.1 γ.2.2.2.1 γ.2.2.2.2.1 (fun v => sg.getD v 0) γ.2.2.2.2.2.1.reverse k := by
  intro k hk hne
  unfold cvn9
  by_cases h1 : γ.1 k = 1
  · obtain ⟨l1, e, l2, q1, q2, q3, -⟩ := E9_sp (hne h1)
    have hn := hnv.2 k h1 l1 e l2 q1 q2 q3
    have full : γ.2.2.2.2.2.1 = l1 ++ e :: (l2 ++ l) := by rw [hr, q1]; simp
    have old := cvs_old (pl := γ.2.1) (nq := γ.2.2.1) (N := γ.2.2.2.2.1) (sg := fun v => sg.getD v 0) (l := l) h1 q1 q2 q3
    rw [← hr] at old
    rw [if_pos h1, old, hn]
    by_cases h3 : e.2.1 = 3
    · rw [if_pos h3, xvg_v]
      unfold nvs
      rw [if_neg (show ¬ e.2.1 = 1 by omega), if_pos h3, vcn_rev]
    · rw [if_neg h3]
      have lt : rcn l1 < 100 := by
        have := congrArg rcn full
        rw [rcn_app] at this
        omega
      exact xvg_fv full h3 lt
  · rw [if_neg h1, cvs_no h1]
    by_cases h2 : γ.1 k = 2
    · rw [if_pos h2, if_pos h2, hnv.1 k h2]
    · rw [if_neg h2, if_neg h2]
theorem vlx_eq {r l : List nm9} {nv : Nat → Int} {i j : Nat} (hr : γ.2.2.2.2.2.1 = r ++ l) (hR : rcn γ.2.2.2.2.2.1 ≤ 60) (hnv : Nvq γ.1 γ.2.2.1 γ.2.2.2.1 r nv) (he : Eo γ.1 6 i j) (hf : (fl γ.1 (E9 γ.2.2.2.1 r 0) γ.2.1 0 i j).1 = 0) : vlq γ.1 (cvn9 γ.1 (XVg γ sg) nv) γ.2.1 0 0 i j = evG γ sg i j := vl_cg0 (E := E9 γ.2.2.2.1 r 0) (leaf_xv hr hR hnv) he hf
theorem Rtw.rtq {m t : Int} {i j : Nat} (h : Rtw E.2 M g R W T E.1 m t i j) (hR : rcn E.2.2.2.2.2.2.1 ≤ 60) : Rtq E.2.1 E.2.2.1 (XVg E.2) (evG E.2) M g R W T E m t i j := by
  obtain ⟨r, l, n', b, f, e, nv, h1, h2, ⟨h3, -, h5⟩, h6, h7⟩ := h
  exact ⟨n', b, f, e, nv, h2, h3, h7, fun sg => vlx_eq h1 hR h6 h3 h5⟩
theorem RBw.rbr {x : Nat} {br : br9} (h : RBw E.2 M g R W T E.1 Z x br) (hR : rcn E.2.2.2.2.2.2.1 ≤ 60) : RBr E.2.1 E.2.2.1 (XVg E.2) (evG E.2) M g R W T E x br := by
  obtain ⟨h1, h2, h3, fs, h4, h5, h6⟩ := h
  exact ⟨h1, h2.rtq hR, h3, fs, h4, fun i q hq => ⟨(h6 i q hq).1, (h6 i q hq).2.1, (h6 i q hq).2.2.1, (h6 i q hq).2.2.2.rtq hR⟩⟩
theorem two9 {x : Nat} (h : 1 ≤ x ∧ x ≤ 3) (h3 : ¬ x = 3) (h1 : ¬ x = 1) : x = 2 := by omega
theorem RGq.gp (h : RGq E.2 M g R W C Z T E.1 tg) (hn : NmO E.2.1 E.2.2.1 E.2.2.2.2.1 E.2.2.2.2.2.1 n E.2.2.2.2.2.2.1) (hR : R ≤ 60) (e17 : mI M g 17 = tg) (t0 : 0 ≤ tg) : GP E.2.1 E.2.2.1 (XVg E.2) (evG E.2) M g R W C T E (E.2.2.2.2.2.2.2.2.1.getD (0, 0)) E.2.2.2.2.2.2.2.2.2 (fun v => (E.2.2.2.2.2.2.2.1.getD v (0, 0, 0)).1) (fun v => (E.2.2.2.2.2.2.2.1.getD v (0, 0, 0)).2.1) := by
  obtain ⟨⟨hr, hw⟩, hN, ⟨hv, hv'⟩, ht, hc, hcm⟩ := h
  have hR' : rcn E.2.2.2.2.2.2.1 ≤ 60 := by rw [hr]; exact hR
  refine ⟨fun sg r hlt z => ?_, fun sg r hlt z => ?_, fun sg v _ => xvg_v, fun v hlt => ?_, ?_, hc, fun c cm hcc => ?_⟩
  · rw [← hr] at hlt
    obtain ⟨l1, e, l2, q1, q2, q3⟩ := rcn_sp _ r hlt
    subst q3
    obtain ⟨a0, a1, a2⟩ := hN l1 e l2 q1 q2
    obtain ⟨b1, -, -, b4⟩ := hn l1 e l2 q1
    have e2 : e.2.1 = 2 := by
      by_cases y : e.2.1 = 1
      · exact absurd (a1 y).1 z
      · exact two9 b1 q2 y
    obtain ⟨c1, nn, nv, c2, c3, c4, c5⟩ := a2 e2
    obtain ⟨d1, d2, d3, d4⟩ := b4 e2
    refine ⟨nn, nv, _, _, c2, c3, c5, ?_⟩
    rw [xvg_fv q1 q2 (by omega)]
    unfold nvs
    rw [if_neg (show ¬ e.2.1 = 1 by omega), if_neg q2]
    exact vl_cg0 (E := E9 _ l1 0) (fun k hk hne => ((leaf_xv (sg := sg) q1 hR' c4 k hk hne).trans (by rw [q1]; exact cvs_pre hne)).symm) c3 d3
  · rw [← hr] at hlt
    obtain ⟨l1, e, l2, q1, q2, q3⟩ := rcn_sp _ r hlt
    subst q3
    obtain ⟨a0, a1, a2⟩ := hN l1 e l2 q1 q2
    obtain ⟨b1, -, -, -⟩ := hn l1 e l2 q1
    have e1 : e.2.1 = 1 := by
      by_cases y : e.2.1 = 2
      · exact absurd z (a2 y).1
      · omega
    rw [xvg_fv q1 q2 (by omega)]
    unfold nvs
    rw [if_pos e1]
    exact (a1 e1).2
  · have hx := List.getElem?_eq_getElem (l := E.2.2.2.2.2.2.2.1) (i := v) (by rw [hv]; exact hlt)
    obtain ⟨y1, y2, y3⟩ := hv' v _ hx
    have gd : E.2.2.2.2.2.2.2.1.getD v (0, 0, 0) = E.2.2.2.2.2.2.2.1[v]'(by rw [hv]; exact hlt) := by
      rw [List.getD_eq_getElem?_getD, hx]
      rfl
    show mI M (g + 19) v = (E.2.2.2.2.2.2.2.1.getD v (0, 0, 0)).1 ∧ mI M (g + 20) v = (E.2.2.2.2.2.2.2.1.getD v (0, 0, 0)).2.1
    rw [gd]
    exact ⟨y1, y2⟩
  · rcases ht with ⟨u, -⟩ | ⟨ij, u1, u2⟩
    · omega
    · rw [e17, u1]
      exact u2.rtq hR'
  · obtain ⟨k1, k2, k3, ⟨k4, -⟩, k5⟩ := hcm c cm hcc
    exact ⟨k1, k2, k3.rtq hR', k4, fun b x hb => (k5 b x hb).rbr hR'⟩
theorem RGq.gok (h : RGq E.2 M g R W C Z T E.1 tg) (hq : NqO E.2.1 E.2.2.2.1 (E.2.2.2.2.2.1 - 1)) (hn : NmO E.2.1 E.2.2.1 E.2.2.2.2.1 E.2.2.2.2.2.1 (E.2.2.2.2.2.1 - 1) E.2.2.2.2.2.2.1) (hs : SgO (fun v => sg.getD v 0) E.2.2.2.2.2.2.1) : GOk (evG E.2) E.2.2.2.2.2.2.2.2.2 sg := fun c cm hc b br hb h0 => by
  obtain ⟨-, -, -, -, k5⟩ := h.2.2.2.2.2 c cm hc
  obtain ⟨-, ⟨r, l, n', b', f, e, nv, h1, -, ⟨h3, h4, h5⟩, -, -⟩, -⟩ := k5 b br hb
  have g := vls_ok hq hn hs h1 h3 (by omega) h5
  exact (vgd.un g h0).2.2
theorem Gd.gdx {i9 : tI9} (h : Gd i9 M g) : ∃ E : Eg9, GaO E.2 ∧ i9.2.2.2.2.1 = XpG E.2 ∧ vcn E.2.2.2.2.2.2.1 = E.2.2.2.2.2.2.2.1.length ∧ GdX E.2.1 E.2.2.1 (XVg E.2) (evG E.2) i9 M g E.2.2.2.2.2.2.2.1.length (E.2.2.2.2.2.2.2.2.1.getD (0, 0)) E.2.2.2.2.2.2.2.2.2 (fun v => (E.2.2.2.2.2.2.2.1.getD v (0, 0, 0)).1) (fun v => (E.2.2.2.2.2.2.2.1.getD v (0, 0, 0)).2.1) (E.2.2.2.2.2.2.2.1.map (fun x => x.2.2)) ∧ ∀ sg, SgO (fun v => sg.getD v 0) E.2.2.2.2.2.2.1 → GOk (evG E.2) E.2.2.2.2.2.2.2.2.2 sg := by
  obtain ⟨T, R, W, C, Z, E, tg, h1, h2, h3, h4, h5, h6, c1, c2, c3, ga, hX⟩ := h
  have hG := h5.2.2.2.2.2.2.2
  have hR := h5.1.1
  have hw := hG.1.2
  have hv := hG.2.2.1.1
  have gp := hG.gp ga.2.1 hR h3.2.2.2 h6
  have s0 : E.2.2.2.2.2.2.2.1.map (fun x => x.2.2) = (List.range W).map (fun v => mI M (g + 21) v) := by
    refine List.ext_getElem? (fun v => ?_)
    by_cases y : v < W
    · have hx := List.getElem?_eq_getElem (l := E.2.2.2.2.2.2.2.1) (i := v) (by rw [hv]; exact y)
      rw [List.getElem?_map, hx, List.getElem?_map, List.getElem?_range y]
      exact congrArg some (hG.2.2.1.2 v _ hx).2.2.symm
    · rw [List.getElem?_eq_none (by rw [List.length_map, hv]; omega), List.getElem?_eq_none (by rw [List.length_map, List.length_range]; omega)]
  subst hv
  exact ⟨E, ga, hX, hw, ⟨T, R, C, Z, E, tg, h1, h2, h3, h4, h5, h6, ⟨c1, c2, c3, ga, hX⟩, gp, s0⟩, fun sg hs => hG.gok ga.1 ga.2.1 hs⟩
theorem x_MM_expl {Nt9 : tP9} (h : RI0 Nt9 M a) : Ci G y_MM_explore (d + 10) [vr a] M (fun r M' => (i32 r ∧ RI0 Nt9 M' a ∧ FR M a M') ∧ ((Nt9.2.2.1 = 0 ∧ mI M' a 0 = 1 ∧ xU M M' a) ∨ (Nt9.2.2.1 ≠ 0 ∧ (∃ W : Nat, (W : Int) = Nt9.2.2.2.1 ∧ xpR Nt9.2.2.2.2.2.2.1 a (mR M a 9) W r M') ∧ mI M' a 0 = 0))) := by
  have e11 := h.2.2.2.2.2.2.2.2.2
  by_cases z : mI M a 11 = 0
  · refine (x_MM_explore (G := G) (d := d) (W := 0) (ww := fun _ => 0) (pl := fun _ => 0) (lo := fun _ => 0) (hi := fun _ => 0) (XV := fun _ _ => (0, 0, 1)) (cvS := fun _ _ => (0, 0, 1)) (ev := fun sg i j => vlq (fun _ => 0) (fun _ => (0, 0, 1)) (fun _ => 0) 0 0 i j) (stp := fun sg l => ((stq9 (fun _ => 0) (fun _ => (0, 0, 1)) (fun _ => 0) (fun _ => 0) (fun _ => 0) l (fun v => sg.getD v 0)).1, (List.range 0).map (stq9 (fun _ => 0) (fun _ => (0, 0, 1)) (fun _ => 0) (fun _ => 0) (fun _ => 0) l (fun v => sg.getD v 0)).2)) (tgI := (0, 0)) (cms := []) (Ok := fun _ => True) (s0 := []) (fun _ _ _ => rfl) (fun _ _ => rfl) (fun _ _ _ _ => trivial) (fun _ _ c cm hc => absurd hc (by simp)) rfl trivial (fun u => absurd z u) h).mono (fun r M' q => ?_)
    obtain ⟨q1, q2, q3, q4⟩ := q
    refine ⟨⟨q1, q2, q3⟩, Or.inl ?_⟩
    rcases q4 with ⟨-, -, y2, y⟩ | ⟨y, -⟩
    · exact ⟨by rw [← e11]; exact z, y, y2⟩
    · exact absurd z y
  · obtain ⟨E, ga, hX, hw, gx, gok⟩ := (h.2.2.2.2.2.1 z).gdx
    refine (x_MM_explore (G := G) (d := d) (cvS := fun sg => cvs E.2.1 E.2.2.1 E.2.2.2.1 E.2.2.2.2.1 E.2.2.2.2.2.1 (fun v => sg.getD v 0) E.2.2.2.2.2.2.1.reverse) (stp := stpq E.2.1 E.2.2.1 E.2.2.2.1 E.2.2.2.2.1 E.2.2.2.2.2.1 E.2.2.2.2.2.2.1 E.2.2.2.2.2.2.2.1.length (fun v => (E.2.2.2.2.2.2.2.1.getD v (0, 0, 0)).1) (fun v => (E.2.2.2.2.2.2.2.1.getD v (0, 0, 0)).2.1)) (Ok := fun sg => SgO (fun v => sg.getD v 0) E.2.2.2.2.2.2.1) (X := XpG E.2) (fun _ _ _ => rfl) (fun _ _ => rfl) (fun sg l so h0 => stp_ok hw (vlo_vr ga.2.2) so h0) gok rfl (vlo_s0 ga.2.2) (fun _ => gx) h).mono (fun r M' q => ?_)
    obtain ⟨q1, q2, q3, q4⟩ := q
    refine ⟨⟨q1, q2, q3⟩, Or.inr ?_⟩
    rcases q4 with ⟨y, -⟩ | ⟨-, y, y0⟩
    · exact absurd y z
    · obtain ⟨T, R, C, Z, E', tg, -, -, g3, -, -, -, g7, -⟩ := gx
      refine ⟨by rw [← e11]; exact z, ⟨_, g3.2.1.symm.trans g7.1, ?_⟩, y0⟩
      have hX' : Nt9.2.2.2.2.2.2.1 = XpG E.2 := hX
      rw [hX']
      exact y
end GPO
end
section
/-! What exploring a text comes to hangs on its own words alone: pure. -/
section XCA
variable {ev ev' : List Int → Nat → Nat → vrs} {stp stp' : List Int → List (Nat × Nat × Nat × Nat) → (Int × Int) × List Int} {sg : List Int}
theorem chq_cg : ∀ (l : List br9), (∀ b, b ∈ l → ev sg b.2.1.1 b.2.1.2 = ev' sg b.2.1.1 b.2.1.2) → chq9 ev sg l = chq9 ev' sg l
  | [], _ => rfl
  | b :: r, h => by
    have hb := h b List.mem_cons_self
    have ih := chq_cg r (fun x hx => h x (List.mem_cons_of_mem _ hx))
    unfold chq9
    rw [hb, ih]
theorem flq_cg {pc m : Int} {nb : Nat} : ∀ (l : List (br9 × (Int × Int))), (∀ x, x ∈ l → stp sg x.1.2.2 = stp' sg x.1.2.2) → ∀ S B, flq9 stp sg pc m nb l S B = flq9 stp' sg pc m nb l S B
  | [], _ => fun _ _ => rfl
  | x :: r, h => fun S B => by
    have hx := h x List.mem_cons_self
    have ih := flq_cg (pc := pc) (m := m) (nb := nb) r (fun y hy => h y (List.mem_cons_of_mem _ hy))
    simp only [flq9, hx, ih]
theorem tcq_cg {nb c : Nat} {cm : cm9} {s : sl9} (hg : ev sg cm.2.2.1.1 cm.2.2.1.2 = ev' sg cm.2.2.1.1 cm.2.2.1.2) (hb : ∀ b, b ∈ cm.2.2.2 → ev sg b.2.1.1 b.2.1.2 = ev' sg b.2.1.1 b.2.1.2 ∧ stp sg b.2.2 = stp' sg b.2.2) : tcq9 ev stp sg nb c cm s = tcq9 ev' stp' sg nb c cm s := by
  have hch := chq_cg (ev := ev) (ev' := ev') (sg := sg) cm.2.2.2 (fun b hx => (hb b hx).1)
  have hf : ∀ (pc m : Int) (n9 : Nat) (l : List (Int × Int)) S B, flq9 stp sg pc m n9 (cm.2.2.2.zip l) S B = flq9 stp' sg pc m n9 (cm.2.2.2.zip l) S B := fun pc m n9 l S B => flq_cg _ (fun x hx => (hb x.1 (List.of_mem_zip hx).1).2) S B
  unfold tcq9
  rw [hg, hch]
  simp only [hf]
theorem tsq_cg {nb : Nat} : ∀ (l : List cm9), (∀ cm, cm ∈ l → ev sg cm.2.2.1.1 cm.2.2.1.2 = ev' sg cm.2.2.1.1 cm.2.2.1.2 ∧ ∀ b, b ∈ cm.2.2.2 → ev sg b.2.1.1 b.2.1.2 = ev' sg b.2.1.1 b.2.1.2 ∧ stp sg b.2.2 = stp' sg b.2.2) → ∀ (c : Nat) (s : sl9), tsq9 ev stp sg nb l c s = tsq9 ev' stp' sg nb l c s
  | [], _ => fun _ _ => rfl
  | cm :: r, h => fun c s => by
    have h1 := h cm List.mem_cons_self
    have ih := tsq_cg (nb := nb) r (fun y hy => h y (List.mem_cons_of_mem _ hy))
    show (if s.1.1 ≠ 0 then s else tsq9 ev stp sg nb r (c + 1) (tcq9 ev stp sg nb c cm s)) = (if s.1.1 ≠ 0 then s else tsq9 ev' stp' sg nb r (c + 1) (tcq9 ev' stp' sg nb c cm s))
    rw [tcq_cg h1.1 h1.2, ih]
theorem ssq_cg {nb : Nat} {tg : Nat × Nat} {cms : List cm9} {S : List (List Int)} (ht : ev sg tg.1 tg.2 = ev' sg tg.1 tg.2) (h : ∀ cm, cm ∈ cms → ev sg cm.2.2.1.1 cm.2.2.1.2 = ev' sg cm.2.2.1.1 cm.2.2.1.2 ∧ ∀ b, b ∈ cm.2.2.2 → ev sg b.2.1.1 b.2.1.2 = ev' sg b.2.1.1 b.2.1.2 ∧ stp sg b.2.2 = stp' sg b.2.2) : ssq9 ev stp tg cms sg nb S = ssq9 ev' stp' tg cms sg nb S := by
  unfold ssq9
  rw [ht, tsq_cg cms h]
theorem exq_cg {tg : Nat × Nat} {cms : List cm9} (ht : ∀ sg, ev sg tg.1 tg.2 = ev' sg tg.1 tg.2) (h : ∀ cm, cm ∈ cms → (∀ sg, ev sg cm.2.2.1.1 cm.2.2.1.2 = ev' sg cm.2.2.1.1 cm.2.2.1.2) ∧ ∀ b, b ∈ cm.2.2.2 → (∀ sg, ev sg b.2.1.1 b.2.1.2 = ev' sg b.2.1.1 b.2.1.2) ∧ ∀ sg, stp sg b.2.2 = stp' sg b.2.2) : ∀ (f k : Nat) (S : List (List Int)) (T : xt9), exq9 ev stp tg cms f k S T = exq9 ev' stp' tg cms f k S T := by
  have hs : ∀ (sg : List Int) (nb : Nat) (S : List (List Int)), ssq9 ev stp tg cms sg nb S = ssq9 ev' stp' tg cms sg nb S := fun sg nb S => ssq_cg (ht sg) (fun cm hc => ⟨(h cm hc).1 sg, fun b hb => ⟨((h cm hc).2 b hb).1 sg, ((h cm hc).2 b hb).2 sg⟩⟩)
  intro f
  induction f with
  | zero => intro k S T; rfl
  | succ f ih =>
    intro k S T
    simp only [exq9, hs, ih]
theorem xpl_cg {tg : Nat × Nat} {cms : List cm9} {s0 : List Int} (ht : ∀ sg, ev sg tg.1 tg.2 = ev' sg tg.1 tg.2) (h : ∀ cm, cm ∈ cms → (∀ sg, ev sg cm.2.2.1.1 cm.2.2.1.2 = ev' sg cm.2.2.1.1 cm.2.2.1.2) ∧ ∀ b, b ∈ cm.2.2.2 → (∀ sg, ev sg b.2.1.1 b.2.1.2 = ev' sg b.2.1.1 b.2.1.2) ∧ ∀ sg, stp sg b.2.2 = stp' sg b.2.2) : xpl9 ev stp tg cms s0 = xpl9 ev' stp' tg cms s0 := exq_cg ht h _ _ _ _
end XCA
section XCB
variable {w w' pl pl' nq nq' lo lo' hi hi' : Nat → Int} {sm sm' : Nat → Nat → Prop} {N i j k V : Nat} {nms : List nm9} {sg : List Int} {cv cv' : Nat → vrs} {sf : Nat → Int}
theorem nxq_ge {x : Int} : ∀ (f k : Nat), k ≤ nxq w x f k
  | 0, k => Nat.le_refl k
  | f + 1, k => by
    unfold nxq
    by_cases c : w k = x
    · rw [if_pos c]; exact Nat.le_refl k
    · rw [if_neg c]
      exact Nat.le_trans (Nat.le_succ k) (nxq_ge f (k + 1))
theorem nxq_ag (hw : ∀ j, j < N → w j = w' j) {x : Int} : ∀ (f k e : Nat), nxq w x f k = e → e < N → nxq w' x f k = e
  | 0, k, e, h, _ => h
  | f + 1, k, e, h, he => by
    unfold nxq at h ⊢
    by_cases c : w k = x
    · rw [if_pos c] at h
      rw [if_pos (by rw [← hw k (by omega)]; exact c)]
      exact h
    · rw [if_neg c] at h
      have := nxq_ge (w := w) (x := x) f (k + 1)
      rw [if_neg (by rw [← hw k (by omega)]; exact c)]
      exact nxq_ag hw f (k + 1) e h he
/-- the formulas' words stand among the words -/
def NmF (w : Nat → Int) (N : Nat) (l : List nm9) : Prop := ∀ e, e ∈ l → (e.1 < N ∧ w e.1 = 1) ∧ (e.2.1 ≠ 1 → e.2.1 ≠ 3 → Eo w 6 (e.1 + 2) (nxq w 34 N e.1) ∧ nxq w 34 N e.1 < N)
theorem rl_v (ag : AgW w w' pl pl' nq nq' sm sm' N) (eo : Eo w 6 i j) (hj : j ≤ N) (hc : ∀ k, k < N → cv k = cv' k) : vlq w cv pl 0 0 i j = vlq w' cv' pl' 0 0 i j := (rl_cg0 (E := fun _ => 0) (E' := fun _ => 0) eo (fun k _ k2 => ⟨(ag.1 k (by omega)).1, (ag.1 k (by omega)).2.1, fun _ => rfl, fun _ => hc k (by omega)⟩)).2.2
theorem cvs_cg (ag : AgW w w' pl pl' nq nq' sm sm' N) : ∀ (l : List nm9), NmF w N l → ∀ k, k < N → cvs w pl nq sm N sf l k = cvs w' pl' nq' sm' N sf l k
  | [], _, k, hk => by
    obtain ⟨a1, -, a3⟩ := ag.1 k hk
    show (if w k = 2 then ((0, nq k, 1) : vrs) else if w k = 12 then (0, 1, 1) else (0, 0, 1)) = (if w' k = 2 then ((0, nq' k, 1) : vrs) else if w' k = 12 then (0, 1, 1) else (0, 0, 1))
    rw [← a1]
    by_cases h2 : w k = 2
    · rw [if_pos h2, if_pos h2, a3 h2]
    · rw [if_neg h2, if_neg h2]
  | e :: r, h, k, hk => by
    have ih := cvs_cg ag r (fun x hx => h x (List.mem_cons_of_mem _ hx))
    obtain ⟨⟨e1, e2⟩, e3⟩ := h e List.mem_cons_self
    have a1 := (ag.1 k hk).1
    have hc : (w k = 1 ∧ sm e.1 k ∧ ∀ e', e' ∈ r → ¬ sm e'.1 k) ↔ (w' k = 1 ∧ sm' e.1 k ∧ ∀ e', e' ∈ r → ¬ sm' e'.1 k) := by
      rw [← a1]
      refine ⟨fun u => ⟨u.1, (ag.2 e.1 k e1 hk e2 u.1).mp u.2.1, fun e' he' y => u.2.2 e' he' ?_⟩, fun u => ⟨u.1, (ag.2 e.1 k e1 hk e2 u.1).mpr u.2.1, fun e' he' y => u.2.2 e' he' ?_⟩⟩
      · obtain ⟨⟨y1, y2⟩, -⟩ := h e' (List.mem_cons_of_mem _ he')
        exact (ag.2 e'.1 k y1 hk y2 u.1).mpr y
      · obtain ⟨⟨y1, y2⟩, -⟩ := h e' (List.mem_cons_of_mem _ he')
        exact (ag.2 e'.1 k y1 hk y2 u.1).mp y
    by_cases c : w k = 1 ∧ sm e.1 k ∧ ∀ e', e' ∈ r → ¬ sm e'.1 k
    · rw [cvs, if_pos c, cvs, if_pos (hc.mp c)]
      by_cases y1 : e.2.1 = 1
      · rw [if_pos y1, if_pos y1]
      rw [if_neg y1, if_neg y1]
      by_cases y3 : e.2.1 = 3
      · rw [if_pos y3, if_pos y3]
      rw [if_neg y3, if_neg y3]
      obtain ⟨z1, z2⟩ := e3 y1 y3
      rw [nxq_ag (fun j hj => (ag.1 j hj).1) N e.1 _ rfl z2]
      exact rl_v ag z1 (Nat.le_of_lt z2) (fun k hk => ih k hk)
    · rw [cvs, if_neg c, cvs, if_neg (fun u => c (hc.mpr u))]
      exact ih k hk
theorem cvr_cg (ag : AgW w w' pl pl' nq nq' sm sm' N) (nf : NmF w N nms) : ∀ k, k < N → cvs w pl nq sm N sf nms.reverse k = cvs w' pl' nq' sm' N sf nms.reverse k := cvs_cg ag _ (fun e he => nf e (List.mem_reverse.mp he))
theorem evq_cg (ag : AgW w w' pl pl' nq nq' sm sm' N) (nf : NmF w N nms) (eo : Eo w 6 i j) (hj : j ≤ N) : evq w pl nq sm N nms sg i j = evq w' pl' nq' sm' N nms sg i j := rl_v ag eo hj (cvr_cg ag nf)
theorem stq_ag (ag : AgW w w' pl pl' nq nq' sm sm' N) (hc : ∀ k, k < N → cv k = cv' k) : ∀ (l : List (Nat × Nat × Nat × Nat)), (∀ q, q ∈ l → (Eo w 6 q.2.1 q.2.2.1 ∧ q.2.2.1 ≤ N ∧ q.2.2.2 < N) ∧ lo q.1 = lo' q.1 ∧ hi q.1 = hi' q.1) → ∀ nx, stq9 w cv pl lo hi l nx = stq9 w' cv' pl' lo' hi' l nx
  | [], _ => fun _ => rfl
  | q :: r, h => fun nx => by
    obtain ⟨⟨a1, a2, a3⟩, a4, a5⟩ := h q List.mem_cons_self
    have ih := stq_ag ag hc r (fun x hx => h x (List.mem_cons_of_mem _ hx))
    rw [stq9, stq9, rl_v ag a1 a2 hc, a4, a5, (ag.1 q.2.2.2 a3).2.1, ih]
/-- other bounds, the same where sets look at them -/
theorem stq_lo : ∀ (l : List (Nat × Nat × Nat × Nat)), (∀ q, q ∈ l → lo q.1 = lo' q.1 ∧ hi q.1 = hi' q.1) → ∀ nx, stq9 w cv pl lo hi l nx = stq9 w cv pl lo' hi' l nx
  | [], _ => fun _ => rfl
  | q :: r, h => fun nx => by
    obtain ⟨a4, a5⟩ := h q List.mem_cons_self
    have ih := stq_lo r (fun x hx => h x (List.mem_cons_of_mem _ hx))
    rw [stq9, stq9, a4, a5, ih]
theorem stpq_lo {l : List (Nat × Nat × Nat × Nat)} (h : ∀ q, q ∈ l → lo q.1 = lo' q.1 ∧ hi q.1 = hi' q.1) : stpq w pl nq sm N nms V lo hi sg l = stpq w pl nq sm N nms V lo' hi' sg l := by
  unfold stpq
  rw [stq_lo l h]
theorem stpq_cg (ag : AgW w w' pl pl' nq nq' sm sm' N) (nf : NmF w N nms) {l : List (Nat × Nat × Nat × Nat)} (h : ∀ q, q ∈ l → Eo w 6 q.2.1 q.2.2.1 ∧ q.2.2.1 ≤ N ∧ q.2.2.2 < N) : stpq w pl nq sm N nms V lo hi sg l = stpq w' pl' nq' sm' N nms V lo hi sg l := by
  unfold stpq
  rw [stq_ag ag (cvr_cg ag nf) l (fun q hq => ⟨h q hq, rfl, rfl⟩)]
/-- the game's words stand among the words -/
def GmO (w : Nat → Int) (N : Nat) (g : gm9) : Prop := (∀ tg, g.2.1 = some tg → Eo w 6 tg.1 tg.2 ∧ tg.2 < N) ∧ ∀ cm, cm ∈ g.2.2 → (Eo w 6 cm.2.2.1.1 cm.2.2.1.2 ∧ cm.2.2.1.2 < N) ∧ ∀ b, b ∈ cm.2.2.2 → (Eo w 6 b.2.1.1 b.2.1.2 ∧ b.2.1.2 < N) ∧ ∀ q, q ∈ b.2.2 → Eo w 6 q.2.1 q.2.2.1 ∧ q.2.2.1 ≤ N ∧ q.2.2.2 < N
theorem xpg_cg {g : gm9} (ag : AgW w w' pl pl' nq nq' sm sm' N) (nf : NmF w N nms) (go : GmO w N g) (hg : g.2.1 ≠ none) : XpG (w, pl, nq, sm, N, nms, g) = XpG (w', pl', nq', sm', N, nms, g) := by
  unfold XpG
  refine xpl_cg (fun sg => ?_) (fun cm hc => ⟨fun sg => ?_, fun b hb => ⟨fun sg => ?_, fun sg => ?_⟩⟩)
  · show evq w pl nq sm N nms sg (g.2.1.getD (0, 0)).1 (g.2.1.getD (0, 0)).2 = evq w' pl' nq' sm' N nms sg (g.2.1.getD (0, 0)).1 (g.2.1.getD (0, 0)).2
    cases e : g.2.1 with
    | none => exact absurd e hg
    | some tg =>
      obtain ⟨a, b⟩ := go.1 tg e
      exact evq_cg ag nf a (Nat.le_of_lt b)
  · obtain ⟨⟨a, b⟩, -⟩ := go.2 cm hc
    exact evq_cg ag nf a (Nat.le_of_lt b)
  · obtain ⟨⟨a, b'⟩, -⟩ := (go.2 cm hc).2 b hb
    exact evq_cg ag nf a (Nat.le_of_lt b')
  · exact stpq_cg ag nf ((go.2 cm hc).2 b hb).2
end XCB
end
