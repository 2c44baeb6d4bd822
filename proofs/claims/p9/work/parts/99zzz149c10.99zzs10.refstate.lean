section
/-! The reference: a state is explored, exactly. -/
section STX
variable {G : mG} {d a g T R W C Z n L w k : Nat} {M M' M2 M3 : mM} {E : Eg9} {tg : Int} {B : Nat → Nat} {P S : Nat → Prop} {ww pl lo hi : Nat → Int} {XV : List Int → Int → vrs} {ev : List Int → Nat → Nat → vrs} {cvS : List Int → Nat → vrs} {stp : List Int → List (Nat × Nat × Nat × Nat) → (Int × Int) × List Int} {tgI : Nat × Nat} {cms : List cm9} {sg : List Int}
theorem GQr.mv {L0 : Nat} {T9 : xt9} {s : sl9} (h : GQr M a W k L0 T9 s) (hW : W ≤ 12) (w : Wd M a) (m : Mv P S M a M') (hin : ∀ q, P q → q ∈ nums a) (hP : ∀ q, P q → q ≠ a + 109 ∧ q ≠ a + 111 ∧ q ≠ a + 113 ∧ q ≠ a + 115) (hS : ∀ x, S x → ¬ ((a + 105 ≤ x ∧ x ≤ a + 108) ∨ (a + 21185 ≤ x ∧ x ≤ a + 21187))) (f29 : mI M' a 29 = mI M a 29) (f40 : mI M' a 40 = mI M a 40) : GQr M' a W k L0 T9 s := by
  obtain ⟨i1, i2, i3, i4, i5, i6, L2, w9, i7, i8, i9, i10, i11, i12, i13⟩ := h
  have c : ∀ o, frO o → (o = 105 ∨ o = 106 ∨ o = 107 ∨ o = 108 ∨ o = 21185 ∨ o = 21186 ∨ o = 21187) → mI M' (a + o) = mI M (a + o) ∧ mL M' (a + o) = mL M (a + o) := fun o fo ho => m.cellL w hin (offx fo) (fun z => hS _ z (by omega))
  have c5 := (c 105 (by decide) (by omega)).1
  have c6 := (c 106 (by decide) (by omega)).1
  have c7 := (c 107 (by decide) (by omega)).1
  have c8 := (c 108 (by decide) (by omega)).1
  have c85 := (c 21185 (by decide) (by omega)).1
  have c86 := (c 21186 (by decide) (by omega)).2
  have c87 := (c 21187 (by decide) (by omega)).2
  have l9 := m.lst (k109 (a := a)) (fun z => (hP _ z).1 rfl)
  have l11 := m.lst (k111 (a := a)) (fun z => (hP _ z).2.1 rfl)
  have l13 := m.lst (k113 (a := a)) (fun z => (hP _ z).2.2.1 rfl)
  have l15 := m.lst (k115 (a := a)) (fun z => (hP _ z).2.2.2 rfl)
  have cm : ∀ i, cmQ M' a i = cmQ M a i := fun i => by
    unfold cmQ
    rw [show nt M' (a + 109) = nt M (a + 109) from funext (fun j => l9.2.1 j), show nt M' (a + 111) = nt M (a + 111) from funext (fun j => l11.2.1 j), show nt M' (a + 113) = nt M (a + 113) from funext (fun j => l13.2.1 j), show nt M' (a + 115) = nt M (a + 115) from funext (fun j => l15.2.1 j), brR_cg (M := M) (M' := M') (fun _ _ _ => by rw [c85, c86, c87]; exact ⟨rfl, rfl, rfl⟩)]
  exact ⟨i1, by rw [f29]; exact i2, by rw [SmR_cg (M := M) hW (fun j _ => by rw [c5])]; exact i3, by rw [← i4]; exact xtR_cg (L := L0) (fun k' _ => by rw [c6]) (fun k' _ => by rw [c7, c8]; exact ⟨rfl, rfl⟩) i6 (fun i _ => cm i), by rw [c6]; exact i5, by rw [c7, c8]; exact i6, L2, w9, by rw [c7]; exact i7, by rw [c8]; exact i8, by rw [l9.1]; exact i9, by rw [f40]; exact i10, by rw [cmL_cg (M := M) (fun i _ _ => cm i)]; exact i11, i12, fun j hj => by rw [c86, c87]; exact i13 j hj⟩
theorem x_st72 {RS : sl9} {T9 : xt9} (hev : ∀ sg i j, ev sg i j = vlq ww (cvS sg) pl 0 0 i j) (hstp : ∀ sg l, stp sg l = ((stq9 ww (cvS sg) pl lo hi l (fun v => sg.getD v 0)).1, (List.range W).map (stq9 ww (cvS sg) pl lo hi l (fun v => sg.getD v 0)).2)) (h0 : GG M a g T R W C Z E tg) (hp : GP ww pl XV ev M g R W C T E tgI cms lo hi) (hok : GOk ev cms sg) (hk5 : k < 512) : ∀ (t c : Nat) (M2 : mM), c + t = C → sI M a g T R W C Z E tg n L k B M2 → (mI M2 a 16 = 0 → ∃ s9, GQr M2 a W k L T9 s9 ∧ XVq M2 a g R W (XV sg) ∧ (∀ v, v < W → mI M2 (a + 101) v = sg.getD v 0) ∧ RS = tsq9 ev stp sg (nbx9 T9) (cms.drop c) c s9) → (mI M2 a 16 ≠ 0 → RS.1 = (mI M2 a 16, mI M2 a 17)) → h_MM_state0_72 G (d + 8) a k c M2 (fun M' => mOk M' ∧ sI M a g T R W C Z E tg n L k B M' ∧ eyX RS T9 a W k L (XV sg) g R sg M') := by
  have hR := h0.2.2.2.2.2.2.2.1.1.1
  have hW12 := h0.2.2.2.2.2.2.2.1.1.2.1
  have hlen := hp.2.2.2.2.2.1
  intro t
  induction t with
  | zero =>
    intro c M2 hc h hz hf
    have ec : c = C := by omega
    subst ec
    obtain ⟨x1, gg, en, hh⟩ := id h
    have w2 := gg.2.1
    have hg := gg.2.2.1.2
    have hBd := gg.2.2.2.2.2.2.2.1.1
    refine k_MM_state0_72 gg.1 (i32s (by omega) (by omega)) (i32s (by omega) (by omega)) ⟨w2.1.1, ?_⟩
    rw [gg.2.2.1.1, gg.2.2.2.2.2.1.2.2.1]
    refine ⟨(w2.gp hg).1, fun _ => ⟨gg.1, h, ?_⟩, fun q => absurd (Or.inl (Int.le_refl _)) q⟩
    by_cases z : mI M2 a 16 = 0
    · obtain ⟨s9, z1, z2, z3, z4⟩ := hz z
      rw [List.drop_eq_nil_of_le (by omega)] at z4
      have z4 : RS = s9 := z4
      rw [z4]
      exact Or.inr ⟨z, z1, z2, z3⟩
    · exact Or.inl ⟨z, hf z⟩
  | succ t ih =>
    intro c M2 hc h hz hf
    obtain ⟨x1, gg, en, hh⟩ := id h
    have w2 := gg.2.1
    have hg := gg.2.2.1.2
    have hD := gg.2.2.2.2.2.2.2.1
    have hBd := hD.1
    have cc := hD.2.2.2.2.1 c (by omega)
    have b60 : ((0 : Int) ≤ (c : Int) ∧ (c : Int) < ((60 : Nat) : Int)) := by omega
    refine k_MM_state0_72 gg.1 (i32s (by omega) (by omega)) (i32s (by omega) (by omega)) ⟨w2.1.1, ?_⟩
    rw [gg.2.2.1.1, gg.2.2.2.2.2.1.2.2.1, show mR M2 g 21 = g + 24 from (w2.gp hg).2.2.1.2.2.2.2.2.2.1, Int.toNat_natCast]
    have gs02 : Gs M M2 g := x1.gs h0.2.1 hg
    have hp2 := hp.gs gs02 hR
    obtain ⟨cm, hcm⟩ : ∃ cm : cm9, cms[c]? = some cm := ⟨_, List.getElem?_eq_getElem (by omega)⟩
    have rc := hp2.2.2.2.2.2.2 c cm hcm
    have dq : cms.drop c = cm :: cms.drop (c + 1) := by
      obtain ⟨hl, he⟩ := List.getElem?_eq_some_iff.mp hcm
      rw [List.drop_eq_getElem_cons hl, he]
    refine ⟨(w2.gp hg).1, fun q => ⟨gg.1, h, ?_⟩, fun q => ?_⟩
    · have z2 : mI M2 a 16 ≠ 0 := by
        rcases q with q | q
        · omega
        · exact q
      exact Or.inl ⟨z2, hf z2⟩
    have z2 : mI M2 a 16 = 0 := Classical.byContradiction (fun z => q (Or.inr z))
    obtain ⟨s9, zg, zx, zs, zr⟩ := hz z2
    rw [dq, tsq_c zg.1] at zr
    refine ⟨(w2.gp hg).2.2.2.2.2.2.2.1.1, by rw [(w2.gp hg).2.2.2.2.2.2.2.1.2]; exact b60, (x_MM_reach (d := d + 3) gg en hp2.1 zx rc.2.2.1 z2).mono (fun M3 t3 => ?_)⟩
    obtain ⟨⟨t1, t2⟩, n2, L2, w2', B2, y1, y2, y3, y4, y5, y6⟩ := hh z2
    obtain ⟨o3, ⟨xr3, gg3, en3, v3⟩, u3⟩ := t3
    have x3 := xr3.xe w2
    have w3 := gg3.2.1
    have gs3 := x3.gs w2 hg
    have tb := x3.tab w2
    have un : ∀ x, xE a x → x = a ∨ (a + 97 ≤ x ∧ x ≤ a + 98) ∨ (a + 102 ≤ x ∧ x ≤ a + 104) ∨ (a + 21188 ≤ x ∧ x ≤ a + 21190) := fun x hx => hx
    have xd3 := y6.mv w2 x3.1 in99 (fun q hq => by omega) (fun x hx => by have := un x hx; omega) gs3 (x3.2 29 (by decide) (by decide) (by decide)) (x3.2 40 (by decide) (by decide) (by decide))
    have s3 : sI M a g T R W C Z E tg n L k B M3 := ⟨x1.trans (x3.xf w2), gg3, en3, fun _ => ⟨by rw [tb.2.1, tb.2.2]; exact ⟨t1, t2⟩, n2, L2, w2', B2, y1, y2, by rw [tb.2.2]; exact y3, y4, y5, xd3⟩⟩
    have A7 : mK M3 (a + 97) = 33 ∧ mN M3 (a + 97) = 16400 := w3.1.2.2.2.2.2.2.2.1.1
    rw [show mR M3 a 21 = a + 97 from w3.1.2.2.2.2.1.2.2.2.2.2.2.1]
    rw [show (c : Int) + 1 = ((c + 1 : Nat) : Int) by omega]
    have zg3 : GQr M3 a W k L T9 s9 := zg.mv hW12 w2 x3.1 in99 (fun q hq => by omega) (fun x hx => by have := un x hx; omega) (x3.2 29 (by decide) (by decide) (by decide)) (x3.2 40 (by decide) (by decide) (by decide))
    have zs3 : ∀ v, v < W → mI M3 (a + 101) v = sg.getD v 0 := fun v hv => by
      rw [(x3.1.cellL w2 in99 (offx (a := a) (o := 101) (by decide)) (fun z => by have := un _ z; omega)).1]
      exact zs v hv
    have gv : mI M3 a 16 = 0 → (ev sg cm.2.2.1.1 cm.2.2.1.2 = (0, mL M3 (a + 97) 0, 1) ∧ XVq M3 a g R W (XV sg)) ∧ (mL M3 (a + 97) 0 = 0 ∨ mL M3 (a + 97) 0 = 1) := fun z => by
      rcases u3 with u | ⟨-, u, y⟩
      · exact absurd (u.2.1.symm.trans z) u.1
      rcases v3 with v | ⟨-, v⟩
      · exact absurd z v
      refine ⟨⟨u, y⟩, ?_⟩
      unfold vok at v
      omega
    refine ⟨o3, w3.1.1, fun _ => ⟨A7.1, by rw [A7.2]; decide⟩, fun q3 => ?_, fun q3 => ih (c + 1) M3 (by omega) s3 (fun z => ?_) (fun z => ?_)⟩
    rotate_left
    · obtain ⟨⟨g1, g2⟩, g3⟩ := gv z
      have g4 : mL M3 (a + 97) 0 = 0 := by
        rcases g3 with y | y
        · exact y
        · exact absurd ⟨z, (cmpz _ _).2.2.2.1.2 y⟩ q3
      refine ⟨s9, zg3, g2, zs3, ?_⟩
      rw [zr, tcq_0 (by rw [g1]) (by rw [g1]; exact g4)]
    · rcases u3 with u | ⟨u, -⟩
      · have e9 := tcq_f (stp := stp) (nb := nbx9 T9) (c := c) (s := s9) u.1
        rw [zr, e9, tsq_f u.1]
        show ((ev sg cm.2.2.1.1 cm.2.2.1.2).1, (ev sg cm.2.2.1.1 cm.2.2.1.2).2.1) = _
        rw [u.2.1, u.2.2]
      · exact absurd u z
    obtain ⟨⟨g1, g2⟩, g3⟩ := gv q3.1
    have g4 : mL M3 (a + 97) 0 = 1 := (cmpz _ _).2.2.2.1.1 q3.2
    have hp3 := hp2.gs gs3 hR
    have hL2 := xd3.le
    refine (x_MM_enabled (d := d) (k := k) (c := c) (sg := sg) (s9 := s9) (T9 := T9) (L0 := L) hev hstp hp3 hcm hok (by rw [g1]) (by rw [g1]; show mL M3 (a + 97) 0 ≠ 0; omega) g2 zs3 zg3 gg3 en3 xd3 y5 q3.1 hk5 (by rw [tb.2.2, y3]; omega) (by omega)).mono (fun M4 t4 => ⟨t4.1, ih (c + 1) M4 (by omega) ?_ (fun z => ?_) (fun z => ?_)⟩)
    rotate_left
    · rcases t4.2.2 with ⟨y, -⟩ | ⟨-, y1, y2, y3⟩
      · exact absurd z y
      · exact ⟨_, y1, y2, y3, zr⟩
    · rcases t4.2.2 with ⟨y, e⟩ | ⟨y, -⟩
      · rw [zr, tsq_f (by rw [e]; exact y)]
        exact e
      · exact absurd y z
    obtain ⟨-, ⟨x4, gg4, en4, k7, k8, v4⟩, -⟩ := t4
    refine ⟨s3.1.trans x4, gg4, en4, fun z4 => ?_⟩
    rcases v4 with y | ⟨-, u1, n4, w4, B4, u2, u3, u4, u5⟩
    · exact absurd z4 y
    · refine ⟨⟨by rw [k7, tb.2.1]; exact t1, fun k' hk' => ⟨by rw [k7, tb.2.1]; exact (t2 k' hk').1, by rw [k8 k' hk', tb.2.2]; exact (t2 k' hk').2⟩⟩, n4, L2 + 1, w4, B4, by omega, by omega, by rw [u1, tb.2.2, y3]; omega, fun i hi => by rw [u3 i (by omega)]; exact y4 i hi, u4, u5⟩
theorem x_MM_state0 {S9 : List (List Int)} {T9 : xt9} (hev : ∀ sg i j, ev sg i j = vlq ww (cvS sg) pl 0 0 i j) (hstp : ∀ sg l, stp sg l = ((stq9 ww (cvS sg) pl lo hi l (fun v => sg.getD v 0)).1, (List.range W).map (stq9 ww (cvS sg) pl lo hi l (fun v => sg.getD v 0)).2)) (hp : GP ww pl XV ev M g R W C T E tgI cms lo hi) (esg : sg = lsR M a W k) (hok : GOk ev cms sg) (e29 : mI M a 29 = ((S9.length : Nat) : Int)) (eS : SmR M a W S9.length = S9) (eT : xtR M a k = T9) (eb : ∀ k', k' < k → (mI M (a + 107) k').toNat + (mI M (a + 108) k').toNat ≤ L) (enb : nbx9 T9 = w) (eW : Wc M a w) (h : GG M a g T R W C Z E tg) (xd : XD M a g n W L w L B) (hw : B L = w) (z16 : mI M a 16 = 0) (hk : k < n) : Cv G y_MM_state0 (d + 9) [vr a, vi k] M (fun M' => mOk M' ∧ sI M a g T R W C Z E tg n L k B M' ∧ eyX (ssq9 ev stp tgI cms sg (nbx9 T9) S9) T9 a W k L (XV sg) g R sg M') := by
  have o := h.1
  have wd := h.2.1
  have hg := h.2.2.1.2
  have hn5 := xd.1.2.2
  have hL := xd.le
  have no : ∀ q : Nat, False → q ∈ nums a := fun _ z => z.elim
  have b512 : ((0 : Int) ≤ (k : Int) ∧ (k : Int) < ((512 : Nat) : Int)) := by omega
  have ik : i32 (k : Int) := i32s (by omega) (by omega)
  refine k_MM_state0 o ik ⟨wd.1.1, (x_MM_enter (d := d + 8) (k := k) h (by omega) (fun v hv => xd.2.2.1 k v hk hv)).mono (fun M2 t2 => ?_)⟩
  obtain ⟨o2, m2, en2, n2, r2⟩ := t2
  have w2 := m2.2.1
  have A6 : ∀ {Mx : mM}, Wd Mx a → (mK Mx (a + 106) = 30 ∧ mN Mx (a + 106) = 512) ∧ (mK Mx (a + 107) = 30 ∧ mN Mx (a + 107) = 512) ∧ (mK Mx (a + 108) = 30 ∧ mN Mx (a + 108) = 512) := fun w => ⟨w.1.2.2.2.2.2.2.2.2.1.2.1, w.1.2.2.2.2.2.2.2.2.1.2.2.1, w.1.2.2.2.2.2.2.2.2.1.2.2.2⟩
  have R6 : ∀ {Mx : mM}, Wd Mx a → mR Mx a 32 = a + 106 ∧ mR Mx a 33 = a + 107 ∧ mR Mx a 34 = a + 108 ∧ mR Mx a 35 = a + 109 := fun w => ⟨w.1.2.2.2.2.2.1.2.1, w.1.2.2.2.2.2.1.2.2.1, w.1.2.2.2.2.2.1.2.2.2.1, w.1.2.2.2.2.2.1.2.2.2.2.1⟩
  rw [(R6 w2).1, Int.toNat_natCast]
  refine ⟨o2, w2.1.1, (A6 w2).1.1, by rw [(A6 w2).1.2]; exact b512, fun M3 e3 => ?_⟩
  obtain ⟨m3, f3, l3⟩ := mv_cell (v := 0) ⟨by decide, by decide⟩ o2 w2 (show a ≤ a + 106 by omega) (offx (a := a) (o := 106) (by decide)) e3
  have w3 := m3.2.1
  have l109 : mI M3 (a + 109) 1 = (L : Int) := by
    have e1 := (m3.lst (k109 (a := a)) (fun z => z)).1
    have e2 := (m2.lst (k109 (a := a)) (fun z => z)).1
    exact e1.trans (e2.trans xd.2.2.2.2.1.1)
  rw [(R6 w3).2.2.2, (R6 w3).2.1, l109]
  refine ⟨(w3.nu k109).1, (A6 w3).2.1.1, by rw [(A6 w3).2.1.2]; exact b512, fun M4 e4 => ?_⟩
  obtain ⟨m4, f4, l4⟩ := mv_cell (v := (L : Int)) (i32s (by omega) (by omega)) m3.1 w3 (show a ≤ a + 107 by omega) (offx (a := a) (o := 107) (by decide)) e4
  have w4 := m4.2.1
  rw [(R6 w4).2.2.1]
  refine ⟨(A6 w4).2.2.1, by rw [(A6 w4).2.2.2]; exact b512, fun M5 e5 => ?_⟩
  obtain ⟨m5, f5, l5⟩ := mv_cell (v := 0) ⟨by decide, by decide⟩ m4.1 w4 (show a ≤ a + 108 by omega) (offx (a := a) (o := 108) (by decide)) e5
  have w5 := m5.2.1
  have nz : ∀ {Mx : mM} (q : Nat), False → q < mZ Mx := fun _ z => z.elim
  have m25 : Mv (fun _ => False) (fun x => a + 106 ≤ x ∧ x ≤ a + 108) M2 a M5 := ((m3.mono (fun _ z => z) (fun x z => by omega) nz).trans (m4.mono (fun _ z => z) (fun x z => by omega) nz)).trans (m5.mono (fun _ z => z) (fun x z => by omega) nz)
  have mm : Mv (fun _ => False) (fun x => (a + 101 ≤ x ∧ x ≤ a + 102) ∨ (a + 106 ≤ x ∧ x ≤ a + 108)) M a M5 := (m2.mono (fun _ z => z) (fun x z => Or.inl (by omega)) nz).trans (m25.mono (fun _ z => z) (fun x z => Or.inr z) nz)
  have aI := (mm.fld wd no (by omega)).1
  have F5 : xF M a M5 := xF.mk wd mm (fun _ z => z.elim) (fun x z => Or.inr (Or.inl (by omega))) (fun i _ _ _ _ _ => by rw [aI])
  have gs5 := F5.gs wd hg
  have gg5 := h.gs m5.1 w5 (by rw [mm.rfl_a wd no]) gs5
  have gs25 := gs_st w2 hg m25 no (fun _ z => z.elim) (fun x z => by omega)
  have en5 := en2.mv w2 m25 no gs25 (fun x z => by omega)
  have xd5 := xd.mv wd mm no (fun _ z => z.elim) (fun x z => by omega) gs5 (by rw [aI]) (by rw [aI])
  have c7 : mI M5 (a + 107) k = (L : Int) := by rw [f5, if_neg (fun z => by omega), f4, if_pos ⟨rfl, rfl⟩]
  have c8 : mI M5 (a + 108) k = 0 := by rw [f5, if_pos ⟨rfl, rfl⟩]
  have q7 := (m2.cellL wd no (offx (a := a) (o := 107) (by decide)) (by omega)).1
  have q8 := (m2.cellL wd no (offx (a := a) (o := 108) (by decide)) (by omega)).1
  have d7 : ∀ k', k' ≠ k → mI M5 (a + 107) k' = mI M (a + 107) k' := fun k' hk' => by rw [f5, if_neg (fun z => by omega), f4, if_neg (fun z => hk' z.2), f3, if_neg (fun z => by omega), q7]
  have d8 : ∀ k', k' ≠ k → mI M5 (a + 108) k' = mI M (a + 108) k' := fun k' hk' => by rw [f5, if_neg (fun z => hk' z.2), f4, if_neg (fun z => by omega), f3, if_neg (fun z => by omega), q8]
  have s5 : sI M a g T R W C Z E tg n L k B M5 := ⟨F5, gg5, en5, fun _ => ⟨⟨c7, fun k' hk' => ⟨d7 k' hk', d8 k' hk'⟩⟩, n, L, w, B, Nat.le_refl _, Nat.le_refl _, by rw [c8, Nat.sub_self]; rfl, fun _ _ => rfl, hw, xd5⟩⟩
  have hR := h.2.2.2.2.2.2.2.1.1.1
  have hW12 := h.2.2.2.2.2.2.2.1.1.2.1
  have hp5 := hp.gs gs5 hR
  have hs5 : ∀ v, v < W → mI M5 (a + 101) v = sg.getD v 0 := fun v hv => by
    rw [(m25.cellL w2 no (offx (a := a) (o := 101) (by decide)) (by omega)).1, n2 v hv, esg]
    exact (getD_mp (f := fun v => mI M (a + 105) (12 * k + v)) hv).symm
  have xq5 : XVq M5 a g R W (XV sg) := xv_ent gg5 hp5 hs5 (fun r hr => by
    rw [(m25.cellL w2 no (offx (a := a) (o := 102) (by decide)) (by omega)).1]
    exact r2 r hr)
  have cm5 : ∀ i, cmQ M5 a i = cmQ M a i := fun i => by
    unfold cmQ
    rw [show nt M5 (a + 109) = nt M (a + 109) from funext (fun j => (mm.lst k109 (fun z => z)).2.1 j), show nt M5 (a + 111) = nt M (a + 111) from funext (fun j => (mm.lst k111 (fun z => z)).2.1 j), show nt M5 (a + 113) = nt M (a + 113) from funext (fun j => (mm.lst k113 (fun z => z)).2.1 j), show nt M5 (a + 115) = nt M (a + 115) from funext (fun j => (mm.lst k115 (fun z => z)).2.1 j), brR_cg (M := M) (M' := M5) (fun _ _ _ => ⟨by rw [(mm.cellL wd no (offx (a := a) (o := 21185) (by decide)) (by omega)).1], by rw [(mm.cellL wd no (offx (a := a) (o := 21186) (by decide)) (by omega)).2], by rw [(mm.cellL wd no (offx (a := a) (o := 21187) (by decide)) (by omega)).2]⟩)]
  have c6 : mI M5 (a + 106) k = 0 := by rw [f5, if_neg (fun z => by omega), f4, if_neg (fun z => by omega), f3, if_pos ⟨rfl, rfl⟩]
  have q6 := (m2.cellL wd no (offx (a := a) (o := 106) (by decide)) (by omega)).1
  have d6 : ∀ k', k' ≠ k → mI M5 (a + 106) k' = mI M (a + 106) k' := fun k' hk' => by rw [f5, if_neg (fun z => by omega), f4, if_neg (fun z => by omega), f3, if_neg (fun z => hk' z.2), q6]
  have gq5 : GQr M5 a W k L T9 ((0, 0), S9, 0, []) := ⟨rfl, by rw [aI]; exact e29, by rw [SmR_cg (M := M) hW12 (fun j _ => by rw [(mm.cellL wd no (offx (a := a) (o := 105) (by decide)) (by omega)).1])]; exact eS, by rw [← eT]; exact xtR_cg (L := L) (fun k' hk' => d6 k' (by omega)) (fun k' hk' => ⟨d7 k' (by omega), d8 k' (by omega)⟩) eb (fun i _ => cm5 i), c6, fun k' hk' => by rw [d7 k' (by omega), d8 k' (by omega)]; exact eb k' hk', L, w, c7, ⟨Nat.le_refl _, by rw [c8, Nat.sub_self]; rfl⟩, xd5.2.2.2.2.1.1, xd5.2.1.1, by rw [Nat.sub_self]; rfl, by show nbx9 T9 + 0 = w; omega, fun j hj => by rw [(mm.cellL wd no (offx (a := a) (o := 21186) (by decide)) (by omega)).2, (mm.cellL wd no (offx (a := a) (o := 21187) (by decide)) (by omega)).2]; exact eW j hj⟩
  have rt := hp5.2.2.2.2.1
  have z165 : mI M5 a 16 = 0 := by rw [aI]; exact z16
  rw [gg5.2.2.1.1]
  refine ⟨(w5.gp hg).1, (x_MM_reach (d := d + 3) gg5 en5 hp5.1 xq5 rt z165).mono (fun M6 t6 => ?_)⟩
  obtain ⟨o6, ⟨xr6, gg6, en6, v6⟩, u6⟩ := t6
  have x6 := xr6.xe w5
  have w6 := gg6.2.1
  have gs6 := x6.gs w5 hg
  have tb := x6.tab w5
  have un : ∀ x, xE a x → x = a ∨ (a + 97 ≤ x ∧ x ≤ a + 98) ∨ (a + 102 ≤ x ∧ x ≤ a + 104) ∨ (a + 21188 ≤ x ∧ x ≤ a + 21190) := fun x hx => hx
  have xd6 := xd5.mv w5 x6.1 in99 (fun q hq => by omega) (fun x hx => by have := un x hx; omega) gs6 (x6.2 29 (by decide) (by decide) (by decide)) (x6.2 40 (by decide) (by decide) (by decide))
  have s6 : sI M a g T R W C Z E tg n L k B M6 := ⟨F5.trans (x6.xf w5), gg6, en6, fun _ => ⟨by rw [tb.2.1, tb.2.2]; exact ⟨c7, fun k' hk' => ⟨d7 k' hk', d8 k' hk'⟩⟩, n, L, w, B, Nat.le_refl _, Nat.le_refl _, by rw [tb.2.2, c8, Nat.sub_self]; rfl, fun _ _ => rfl, hw, xd6⟩⟩
  have gq6 := gq5.mv hW12 w5 x6.1 in99 (fun q hq => by omega) (fun x hx => by have := un x hx; omega) (x6.2 29 (by decide) (by decide) (by decide)) (x6.2 40 (by decide) (by decide) (by decide))
  have hs6 : ∀ v, v < W → mI M6 (a + 101) v = sg.getD v 0 := fun v hv => by
    rw [(x6.1.cellL w5 in99 (offx (a := a) (o := 101) (by decide)) (fun z => by have := un _ z; omega)).1]
    exact hs5 v hv
  have gv : mI M6 a 16 = 0 → (ev sg tgI.1 tgI.2 = (0, mL M6 (a + 97) 0, 1) ∧ XVq M6 a g R W (XV sg)) ∧ (mL M6 (a + 97) 0 = 0 ∨ mL M6 (a + 97) 0 = 1) := fun z => by
    rcases u6 with u | ⟨-, u, y⟩
    · exact absurd (u.2.1.symm.trans z) u.1
    rcases v6 with v | ⟨-, v⟩
    · exact absurd z v
    refine ⟨⟨u, y⟩, ?_⟩
    unfold vok at v
    omega
  have A7 : mK M6 (a + 97) = 33 ∧ mN M6 (a + 97) = 16400 := w6.1.2.2.2.2.2.2.2.1.1
  rw [show mR M6 a 21 = a + 97 from w6.1.2.2.2.2.1.2.2.2.2.2.2.1, (R6 w6).1]
  refine ⟨o6, w6.1.1, fun z6 => ⟨A7.1, by rw [A7.2]; decide, fun q7 => ⟨(A6 w6).1.1, by rw [(A6 w6).1.2]; exact b512, fun M7 e7 => ?_⟩, fun q7 => ?_⟩, fun z6 => ⟨o6, s6, Or.inl ⟨z6, ?_⟩⟩⟩
  rotate_left
  · obtain ⟨⟨g1, g2⟩, g3⟩ := gv z6
    have g4 : mL M6 (a + 97) 0 = 0 := by
      rcases g3 with y | y
      · exact y
      · exact absurd ((cmpz _ _).2.2.2.1.2 y) q7
    refine x_st72 hev hstp h hp hok (by omega) C 0 M6 (by omega) s6 (fun _ => ⟨_, gq6, g2, hs6, ?_⟩) (fun z => absurd z6 z)
    rw [ssq_n (by rw [g1]) (by rw [g1]; exact g4)]
    rfl
  · rcases u6 with u | ⟨u, -⟩
    · rw [ssq_f u.1, ← u.2.1, ← u.2.2]
    · exact absurd u z6
  obtain ⟨⟨g1, g2⟩, g3⟩ := gv z6
  have g4 : mL M6 (a + 97) 0 = 1 := (cmpz _ _).2.2.2.1.1 q7
  obtain ⟨m7, f7, l7⟩ := mv_cell (v := 3) ⟨by decide, by decide⟩ o6 w6 (show a ≤ a + 106 by omega) (offx (a := a) (o := 106) (by decide)) e7
  have aI7 := (m7.fld w6 no (by omega)).1
  have F7 : xF M6 a M7 := xF.mk w6 m7 (fun _ z => z.elim) (fun x z => Or.inr (Or.inl (by omega))) (fun i _ _ _ _ _ => by rw [aI7])
  have gs7 := F7.gs w6 hg
  have xd7 := xd6.mv w6 m7 no (fun _ z => z.elim) (fun x z => by omega) gs7 (by rw [aI7]) (by rw [aI7])
  have e7' : ∀ y, y ≠ a + 106 → mI M7 y = mI M6 y := fun y hy => by
    funext j
    rw [f7, if_neg (fun z => hy z.1)]
  refine ⟨m7.1, ⟨s6.1.trans F7, gg6.gs m7.1 m7.2.1 (by rw [m7.rfl_a w6 no]) gs7, en6.mv w6 m7 no gs7 (fun x z => by omega), fun _ => ⟨by rw [e7' (a + 107) (by omega), e7' (a + 108) (by omega), tb.2.1, tb.2.2]; exact ⟨c7, fun k' hk' => ⟨d7 k' hk', d8 k' hk'⟩⟩, n, L, w, B, Nat.le_refl _, Nat.le_refl _, by rw [e7' (a + 108) (by omega), tb.2.2, c8, Nat.sub_self]; rfl, fun _ _ => rfl, hw, xd7⟩⟩, Or.inr ⟨by rw [aI7]; exact z6, ?_, g2.mv w6 m7 no gs7 (fun x z => by omega), fun v hv => by rw [e7' (a + 101) (by omega)]; exact hs6 v hv⟩⟩
  rw [ssq_t (by rw [g1]) (by rw [g1]; show mL M6 (a + 97) 0 ≠ 0; omega)]
  obtain ⟨i1, i2, i3, i4, i5, i6, L2, w9, i7, i8, i9, i10, i11, i12, i13⟩ := gq6
  have l7' : mL M7 = mL M6 := l7
  have cm7 : ∀ i, cmQ M7 a i = cmQ M6 a i := fun i => by
    unfold cmQ
    rw [show nt M7 (a + 109) = nt M6 (a + 109) from funext (fun j => (m7.lst k109 (fun z => z)).2.1 j), show nt M7 (a + 111) = nt M6 (a + 111) from funext (fun j => (m7.lst k111 (fun z => z)).2.1 j), show nt M7 (a + 113) = nt M6 (a + 113) from funext (fun j => (m7.lst k113 (fun z => z)).2.1 j), show nt M7 (a + 115) = nt M6 (a + 115) from funext (fun j => (m7.lst k115 (fun z => z)).2.1 j), brR_cg (M := M6) (M' := M7) (fun _ _ _ => ⟨by rw [e7' (a + 21185) (by omega)], by rw [l7'], by rw [l7']⟩)]
  refine ⟨rfl, by rw [aI7]; exact i2, by rw [SmR_cg (M := M6) hW12 (fun j _ => by rw [e7' (a + 105) (by omega)])]; exact i3, ?_, by rw [f7, if_pos ⟨rfl, Int.toNat_natCast k⟩], fun k' hk' => by rw [e7' (a + 107) (by omega), e7' (a + 108) (by omega)]; exact i6 k' hk', L2, w9, by rw [e7' (a + 107) (by omega)]; exact i7, by rw [e7' (a + 108) (by omega)]; exact i8, by rw [(m7.lst k109 (fun z => z)).1]; exact i9, by rw [aI7]; exact i10, by rw [cmL_cg (M := M6) (fun i _ _ => cm7 i)]; exact i11, i12, fun j hj => by rw [l7']; exact i13 j hj⟩
  rw [← i4]
  exact xtR_cg (L := L) (fun k' hk' => by rw [f7, if_neg (fun z => by have := z.2; omega)]) (fun k' _ => by rw [e7' (a + 107) (by omega), e7' (a + 108) (by omega)]; exact ⟨rfl, rfl⟩) i6 (fun i _ => cm7 i)
end STX
end
section
/-! The reference: explore, exactly. -/
section EXX
variable {G : mG} {d a g T R W C Z : Nat} {M M' M1 M2 M3 : mM} {E : Eg9} {tg : Int} {Nt9 : tP9} {ww pl lo hi : Nat → Int} {XV : List Int → Int → vrs} {ev : List Int → Nat → Nat → vrs} {cvS : List Int → Nat → vrs} {stp : List Int → List (Nat × Nat × Nat × Nat) → (Int × Int) × List Int} {tgI : Nat × Nat} {cms : List cm9}
/-- the states that were found -/
def XTr (M : mM) (a g W : Nat) (S : List (List Int)) (T : xt9) : Prop := mI M a 29 = ((S.length : Nat) : Int) ∧ SmR M a W S.length = S ∧ xtR M a S.length = T ∧ ∃ w9 : Nat, mI M a 40 = (w9 : Int) ∧ Wc M a w9 ∧ ∃ (L w : Nat) (B : Nat → Nat), XD M a g S.length W L w L B ∧ B L = w
/-- what explore comes to -/
def xpR (X : (Int × Int) × Nat × List (List Int) × xt9) (a g W : Nat) (r : Int) (M' : mM) : Prop := (X.1.1 ≠ 0 ∧ r = X.1.1 ∧ mI M' a 12 = X.1.2 ∧ mI M' a 30 = ((X.2.1 : Nat) : Int) ∧ mI M' a 29 = 0 ∧ mI M' (a + 117 + 30) 0 = 0) ∨ (X.1 = (0, 0) ∧ r = 0 ∧ mI M' a 12 = -1 ∧ mI M' a 30 = -1 ∧ XTr M' a g W X.2.2.1 X.2.2.2 ∧ SvT M' (a + 117) X.2.2.2 ∧ kdT X.2.2.2 ∧ mI M' (a + 117 + 30) 0 = 0)
/-- nothing but the sign of a throw has changed -/
def xU (M M' : mM) (a : Nat) : Prop := mR M' = mR M ∧ mL M' = mL M ∧ (∀ x, x ≠ a → mI M' x = mI M x) ∧ ∀ i, i ≠ 0 → mI M' a i = mI M a i
theorem xU.one {v : Int} (e : M' = mUI M a 0 v) : xU M M' a := by
  subst e
  refine ⟨rfl, rfl, fun x hx => ?_, fun i hi => ?_⟩
  · funext k
    rw [mI_UI, if_neg (fun z => hx z.1)]
  · rw [mI_UI, if_neg (fun z => hi z.2)]
/-- the game of a text, with its words -/
def GdX (ww pl : Nat → Int) (XV : List Int → Int → vrs) (ev : List Int → Nat → Nat → vrs) (i9 : tI9) (M : mM) (g W : Nat) (tgI : Nat × Nat) (cms : List cm9) (lo hi : Nat → Int) (s0 : List Int) : Prop := ∃ (T R C Z : Nat) (E : Eg9) (tg : Int), nd M g T ∧ (T ≤ 16384 ∧ Z ≤ 16384) ∧ (mI M g 6 = R ∧ mI M g 12 = W ∧ mI M g 18 = C ∧ mI M g 17 = tg) ∧ (ln M (g + 30) = Z ∧ ln M (g + 32) = Z ∧ ln M (g + 34) = Z) ∧ Dg M g R W C Z T E tg ∧ 0 ≤ tg ∧ (mI M g 12 = i9.2.1 ∧ mI M g 6 = i9.2.2.1 ∧ mI M g 18 = i9.2.2.2.1 ∧ GaO E.2 ∧ i9.2.2.2.2.1 = XpG E.2) ∧ GP ww pl XV ev M g R W C T E tgI cms lo hi ∧ s0 = (List.range W).map (fun v => mI M (g + 21) v)
theorem GdX.gs {i9 : tI9} {s0 : List Int} (h : GdX ww pl XV ev i9 M g W tgI cms lo hi s0) (k : Gs M M' g) : GdX ww pl XV ev i9 M' g W tgI cms lo hi s0 := by
  obtain ⟨T, R, C, Z, E, tg, h1, h2, h3, h4, h5, h6, h7, h8, h9⟩ := h
  obtain ⟨hI, hc, hl⟩ := id k
  have G : Ge M g R W C Z T M' := ⟨⟨fun n _ => ⟨(hl (g + 1) (by first | exact tLk1 g | omega)).2 n, (hl (g + 7) (by first | exact tLk7 g | omega)).2 n, (hl (g + 9) (by first | exact tLk9 g | omega)).2 n, (hl (g + 11) (by first | exact tLk11 g | omega)).2 n, (hl (g + 3) (by first | exact tLk3 g | omega)).2 n⟩, fun r _ => ⟨by rw [(hc 13 (by omega) (by omega)).1], by rw [(hc 14 (by omega) (by omega)).1]⟩, fun v _ => by rw [(hc 18 (by omega) (by omega)).1]⟩, fun r _ => ⟨by rw [(hc 15 (by omega) (by omega)).1], by rw [(hc 16 (by omega) (by omega)).2], by rw [(hc 17 (by omega) (by omega)).2]⟩, fun v _ => ⟨by rw [(hc 19 (by omega) (by omega)).1], by rw [(hc 20 (by omega) (by omega)).1], by rw [(hc 21 (by omega) (by omega)).1]⟩, fun c _ => ⟨by rw [(hc 24 (by omega) (by omega)).1], by rw [(hc 25 (by omega) (by omega)).1], fun b _ => ⟨by rw [(hc 26 (by omega) (by omega)).1], by rw [(hc 28 (by omega) (by omega)).1], by rw [(hc 29 (by omega) (by omega)).1], by rw [(hc 27 (by omega) (by omega)).1], by rw [(hc 22 (by omega) (by omega)).1], by rw [(hc 23 (by omega) (by omega)).1]⟩⟩, fun i _ => ⟨(hl (g + 30) (by omega)).2 i, (hl (g + 34) (by omega)).2 i, (hl (g + 32) (by omega)).2 i⟩⟩
  refine ⟨T, R, C, Z, E, tg, fun q hq => ?_, h2, by rw [hI]; exact h3, ⟨by rw [(hl (g + 30) (by omega)).1]; exact h4.1, by rw [(hl (g + 32) (by omega)).1]; exact h4.2.1, by rw [(hl (g + 34) (by omega)).1]; exact h4.2.2⟩, h5.ge G, h6, by rw [hI]; exact h7, h8.gs k h5.1.1, by rw [(hc 21 (by omega) (by omega)).1]; exact h9⟩
  have hq' : q = g + 1 ∨ q = g + 3 ∨ q = g + 5 ∨ q = g + 7 ∨ q = g + 9 ∨ q = g + 11 := hq
  rw [(hl q (by omega)).1]
  exact h1 q hq
/-- the solver's step leaves them -/
theorem XTr.sol {S : List (List Int)} {T9 : xt9} {S' : Nat → Prop} (h : XTr M a g W S T9) (w : Wd M a) (m : Mv (fun _ => False) S' M a M') (hS : ∀ x, S' x → a + 117 ≤ x ∧ x ≤ a + 117 + 21067) (hW : W ≤ 12) (aI : mI M' a = mI M a) (hx : ∃ (L w : Nat) (B : Nat → Nat), XD M' a g S.length W L w L B ∧ B L = w) : XTr M' a g W S T9 := by
  obtain ⟨h1, h2, h3, w9, h4, h5, -⟩ := h
  have no : ∀ q : Nat, False → q ∈ nums a := fun _ z => z.elim
  have c : ∀ o, frO o → (o = 105 ∨ o = 106 ∨ o = 107 ∨ o = 108 ∨ o = 21185 ∨ o = 21186 ∨ o = 21187) → mI M' (a + o) = mI M (a + o) ∧ mL M' (a + o) = mL M (a + o) := fun o fo ho => m.cellL w no (offx fo) (fun z => by have := hS _ z; omega)
  have c5 := (c 105 (by decide) (by omega)).1
  have c6 := (c 106 (by decide) (by omega)).1
  have c7 := (c 107 (by decide) (by omega)).1
  have c8 := (c 108 (by decide) (by omega)).1
  have c85 := (c 21185 (by decide) (by omega)).1
  have c86 := (c 21186 (by decide) (by omega)).2
  have c87 := (c 21187 (by decide) (by omega)).2
  have cm : ∀ i, cmQ M' a i = cmQ M a i := fun i => by
    unfold cmQ
    rw [show nt M' (a + 109) = nt M (a + 109) from funext (fun j => (m.lst k109 (fun z => z)).2.1 j), show nt M' (a + 111) = nt M (a + 111) from funext (fun j => (m.lst k111 (fun z => z)).2.1 j), show nt M' (a + 113) = nt M (a + 113) from funext (fun j => (m.lst k113 (fun z => z)).2.1 j), show nt M' (a + 115) = nt M (a + 115) from funext (fun j => (m.lst k115 (fun z => z)).2.1 j), brR_cg (M := M) (M' := M') (fun _ _ _ => by rw [c85, c86, c87]; exact ⟨rfl, rfl, rfl⟩)]
  refine ⟨by rw [aI]; exact h1, by rw [SmR_cg (M := M) hW (fun j _ => by rw [c5])]; exact h2, ?_, w9, by rw [aI]; exact h4, fun j hj => by rw [c86, c87]; exact h5 j hj, hx⟩
  rw [← h3]
  unfold xtR stR
  refine List.map_congr_left (fun k hk => ?_)
  rw [c6, c7, c8, cmL_cg (M := M) (fun i _ _ => cm i)]
/-- before state k -/
def pX (ev : List Int → Nat → Nat → vrs) (stp : List Int → List (Nat × Nat × Nat × Nat) → (Int × Int) × List Int) (tgI : Nat × Nat) (cms : List cm9) (Ok : List Int → Prop) (X : (Int × Int) × Nat × List (List Int) × xt9) (a W k : Nat) (M2 : mM) : Prop := (mI M2 a 16 = 0 → ∃ (S : List (List Int)) (T9 : xt9), X = exq9 ev stp tgI cms (513 - k) k S T9 ∧ mI M2 a 29 = ((S.length : Nat) : Int) ∧ SmR M2 a W S.length = S ∧ xtR M2 a k = T9 ∧ S.length ≤ 512 ∧ ∃ w9 : Nat, mI M2 a 40 = (w9 : Int) ∧ nbx9 T9 = w9 ∧ Wc M2 a w9 ∧ ∀ s, s ∈ S → Ok s) ∧ (mI M2 a 16 ≠ 0 → X.1 = (mI M2 a 16, mI M2 a 17) ∧ X.2.1 + 1 = k)
theorem enq_ok {Ok : List Int → Prop} {S S' : List (List Int)} {x : List Int} {k : Nat} (h : enq9 S x = some (k, S')) (hx : Ok x) (hS : ∀ s, s ∈ S → Ok s) : ∀ s, s ∈ S' → Ok s := by
  unfold enq9 at h
  split at h
  · have := Option.some.inj h
    have e : S = S' := congrArg Prod.snd this
    rw [← e]
    exact hS
  · split at h
    · exact absurd h (by simp)
    · have := Option.some.inj h
      have e : S ++ [x] = S' := congrArg Prod.snd this
      rw [← e]
      intro s hs
      rcases List.mem_append.mp hs with q | q
      · exact hS s q
      · rw [List.mem_singleton.mp q]; exact hx
theorem flq_ok {Ok : List Int → Prop} {sg : List Int} {pc m : Int} {nb : Nat} (hok1 : ∀ sg l, Ok sg → (stp sg l).1.1 = 0 → Ok (stp sg l).2) (hsg : Ok sg) : ∀ (l : List (br9 × (Int × Int))) (S : List (List Int)) (Bl : List (Nat × Int)), (∀ s, s ∈ S → Ok s) → ∀ s, s ∈ (flq9 stp sg pc m nb l S Bl).2.1 → Ok s
  | [], S, Bl, hS => hS
  | x :: l, S, Bl, hS => by
    by_cases c0 : x.2.1 = 0
    · rw [flq_0 c0]
      exact flq_ok hok1 hsg l S Bl hS
    by_cases c1 : (stp sg x.1.2.2).1.1 = 0
    rotate_left
    · rw [flq_f c0 c1]
      exact hS
    cases c2 : enq9 S (stp sg x.1.2.2).2 with
    | none =>
      rw [flq_n c0 c1 c2]
      exact hS
    | some q =>
      obtain ⟨to, S2⟩ := q
      have hS2 := enq_ok c2 (hok1 sg _ hsg c1) hS
      rw [flq_e c0 c1 c2]
      cases c3 : jnq9 to (m / x.2.2 * x.2.1) Bl with
      | some B' => exact flq_ok hok1 hsg l S2 B' hS2
      | none =>
        show ∀ s, s ∈ (if nb + Bl.length = 4096 then ((5, pc), S2, Bl) else flq9 stp sg pc m nb l S2 (Bl ++ [(to, m / x.2.2 * x.2.1)])).2.1 → Ok s
        by_cases c4 : nb + Bl.length = 4096
        · rw [if_pos c4]
          exact hS2
        · rw [if_neg c4]
          exact flq_ok hok1 hsg l S2 _ hS2
theorem tcq_ok {Ok : List Int → Prop} {sg : List Int} {nb c : Nat} {cm : cm9} {s : sl9} (hok1 : ∀ sg l, Ok sg → (stp sg l).1.1 = 0 → Ok (stp sg l).2) (hsg : Ok sg) (hS : ∀ x, x ∈ s.2.1 → Ok x) : ∀ x, x ∈ (tcq9 ev stp sg nb c cm s).2.1 → Ok x := by
  unfold tcq9
  split
  · exact hS
  split
  · exact hS
  split
  · exact hS
  split
  · exact hS
  split
  · exact hS
  split
  · exact hS
  exact flq_ok hok1 hsg _ _ _ hS
theorem tsq_ok {Ok : List Int → Prop} {sg : List Int} {nb : Nat} (hok1 : ∀ sg l, Ok sg → (stp sg l).1.1 = 0 → Ok (stp sg l).2) (hsg : Ok sg) : ∀ (l : List cm9) (c : Nat) (s : sl9), (∀ x, x ∈ s.2.1 → Ok x) → ∀ x, x ∈ (tsq9 ev stp sg nb l c s).2.1 → Ok x
  | [], c, s, hS => hS
  | cm :: l, c, s, hS => by
    show ∀ x, x ∈ (if s.1.1 ≠ 0 then s else tsq9 ev stp sg nb l (c + 1) (tcq9 ev stp sg nb c cm s)).2.1 → Ok x
    by_cases h : s.1.1 ≠ 0
    · rw [if_pos h]
      exact hS
    · rw [if_neg h]
      exact tsq_ok hok1 hsg l (c + 1) _ (tcq_ok hok1 hsg hS)
theorem ssq_ok {Ok : List Int → Prop} {sg : List Int} {nb : Nat} {tg : Nat × Nat} {S : List (List Int)} (hok1 : ∀ sg l, Ok sg → (stp sg l).1.1 = 0 → Ok (stp sg l).2) (hsg : Ok sg) (hS : ∀ x, x ∈ S → Ok x) : ∀ x, x ∈ (ssq9 ev stp tg cms sg nb S).2.1 → Ok x := by
  unfold ssq9
  split
  · exact hS
  split
  · exact hS
  exact tsq_ok hok1 hsg _ _ _ hS
end EXX
end
section
/-! The reference: the solver's tables are those of what was explored. -/
section TSV
variable {a n L w : Nat} {M : mM} {F B : Nat → Nat} {mu to up dn : Nat → Int}
theorem rgetR {α : Type} (f : Nat → α) (n k : Nat) : ((List.range n).map f)[k]? = if k < n then some (f k) else none := by
  by_cases h : k < n
  · rw [if_pos h, List.getElem?_map, List.getElem?_range h]
    all_goals rfl
  · rw [if_neg h]
    exact List.getElem?_eq_none (by rw [List.length_map, List.length_range]; omega)
theorem wsL_app {x : Nat → Rat} : ∀ l r : List (Nat × Int), wsL9 x (l ++ r) = wsL9 x l + wsL9 x r
  | [], r => by
    show wsL9 x r = 0 + wsL9 x r
    grind
  | b :: l, r => by
    show (b.2 : Rat) * x b.1 + wsL9 x (l ++ r) = (b.2 : Rat) * x b.1 + wsL9 x l + wsL9 x r
    rw [wsL_app l r]
    grind
theorem wsL_map {x : Nat → Rat} {p : Nat → Nat} {q : Nat → Int} : ∀ m, wsL9 x ((List.range m).map (fun t => (p t, q t))) = sr (fun t => (q t : Rat) * x (p t)) m
  | 0 => rfl
  | m + 1 => by
    rw [List.range_succ, List.map_append, wsL_app, wsL_map m]
    show _ + ((q m : Rat) * x (p m) + 0) = sr (fun t => (q t : Rat) * x (p t)) m + (q m : Rat) * x (p m)
    grind
theorem sr_cq {g h : Nat → Rat} {y : Rat} : ∀ n, (∀ t, t < n → g t = h t * y) → sr g n = sr h n * y
  | 0, _ => by
    show (0 : Rat) = 0 * y
    grind
  | n + 1, e => by
    show sr g n + g n = (sr h n + h n) * y
    rw [sr_cq n (fun t ht => e t (by omega)), e n (by omega)]
    grind
theorem inv_q {m c q : Rat} (h : m * c = q) (m0 : m ≠ 0) : c = q * m⁻¹ := by
  have e := Rat.mul_inv_cancel _ m0
  grind
theorem tl_svt (tt : TT M a n L w F B mu to up dn) (tl : TL M (a + 117) F B mu to up dn n L w) (hB : B L = w) (gb : GB M (a + 117)) (hto : ∀ j, j < w → 0 ≤ to j ∧ to j < n) : SvT M (a + 117) (xtR M a n) := by
  have lenT : (xtR M a n).length = n := by unfold xtR; rw [List.length_map, List.length_range]
  obtain ⟨⟨t0, t1, t2⟩, ⟨fn, fk⟩, -, bk, wk⟩ := tt
  obtain ⟨-, ⟨n1, n2, n3⟩, ⟨f1, f2⟩, ⟨b1, b2⟩, m1, w1, -, -, kd⟩ := tl
  have eF : ∀ j, j ≤ n → mI M (a + 117 + 23) j = (F j : Int) := fun j hj => by
    by_cases z : j = n
    · rw [z, f2, fn]
    · exact f1 j (by omega)
  have eB : ∀ j, j ≤ L → mI M (a + 117 + 25) j = (B j : Int) := fun j hj => by
    by_cases z : j = L
    · rw [z, b2, hB]
    · exact b1 j (by omega)
  refine ⟨by rw [n1]; unfold xtR; rw [List.length_map, List.length_range], fun k x hx => ?_⟩
  unfold xtR at hx
  rw [rgetR] at hx
  by_cases hk : k < n
  · rw [if_pos hk] at hx
    have ex := Option.some.inj hx
    subst ex
    obtain ⟨g7, g8, g9, g10⟩ := fk k hk
    have e23 := eF k (by omega)
    have e24 := eF (k + 1) (by omega)
    refine ⟨?_, ?_, fun i c hc => ?_⟩
    · rw [kd k hk, show a + 117 - 11 = a + 106 by omega]
      all_goals rfl
    · unfold mny stR cmL
      rw [List.length_map, List.length_range, e23, e24, g8, Int.toNat_natCast]
      omega
    · have hc' : ((List.range (mI M (a + 108) k).toNat).map (fun t => cmQ M a ((mI M (a + 107) k).toNat + t)))[i]? = some c := hc
      rw [rgetR, g7, g8, Int.toNat_natCast, Int.toNat_natCast] at hc'
      by_cases hi : i < F (k + 1) - F k
      · rw [if_pos hi] at hc'
        have ec := Option.some.inj hc'
        obtain ⟨q1, q2, q3, q4, q5⟩ := bk (F k + i) (by omega)
        have e25 := eB (F k + i) (by omega)
        have e26 := eB (F k + i + 1) (by omega)
        have bl : c.2.2 = (List.range (B (F k + i + 1) - B (F k + i))).map (fun t => ((mI M (a + 21185) (B (F k + i) + t)).toNat, mL M (a + 21186) (B (F k + i) + t) * (nt M (a + 115) (F k + i) / mL M (a + 21187) (B (F k + i) + t)))) := by
          rw [← ec]
          unfold cmQ brR
          rw [q1, q2, Int.toNat_natCast, Int.toNat_natCast]
        rw [e23, Int.toNat_natCast]
        refine ⟨by rw [m1 (F k + i) (by omega), ← q5, ← ec]; rfl, fun J => ?_, fun b hb => ?_, fun f => ?_⟩
        rotate_left
        · rw [bl] at hb
          obtain ⟨t, t3, t4⟩ := List.mem_map.mp hb
          have t5 := List.mem_range.mp t3
          rw [← t4, lenT]
          show (mI M (a + 21185) (B (F k + i) + t)).toNat < n
          have h1 := (wk (B (F k + i) + t) (by omega)).1
          have h2 := hto (B (F k + i) + t) (by omega)
          omega
        · have ecx : cx M (a + 117) k i = F k + i := by
            unfold cx
            rw [e23, Int.toNat_natCast]
          have ebg : bg M (a + 117) (F k + i) = B (F k + i) := by
            unfold bg
            rw [e25, Int.toNat_natCast]
          have enb : nb M (a + 117) (F k + i) = B (F k + i + 1) - B (F k + i) := by
            unfold nb
            rw [e25, e26]
            omega
          have c21 : c.2.1 = nt M (a + 115) (F k + i) := by rw [← ec]; rfl
          have hc2 : ((F k + i : Nat) : Int) < mI M (a + 117) 2 := by rw [n2]; omega
          have gk := (gb (F k + i) hc2).1.1
          have em : mI M (a + 117 + 24) (F k + i) = nt M (a + 115) (F k + i) := by rw [m1 (F k + i) (by omega), ← q5]
          unfold wr9 cw
          rw [bl, wsL_map, c21, ecx, ebg, enb]
          refine sr_cq _ (fun t ht => ?_)
          have w9 := w1 (B (F k + i) + t) (by omega)
          have k9 := wk (B (F k + i) + t) (by omega)
          have ci := gb.chq_int hc2 (b := t) (by rw [enb]; exact ht)
          rw [ebg, em] at ci
          rw [w9.2.1, w9.2.2] at ci
          have m0 : ((nt M (a + 115) (F k + i) : Int) : Rat) ≠ 0 := ic_ne (by rw [← em]; omega)
          show chq M (a + 117) (B (F k + i) + t) * f (mI M (a + 117 + 26) (B (F k + i) + t)).toNat = ((mL M (a + 21186) (B (F k + i) + t) * (nt M (a + 115) (F k + i) / mL M (a + 21187) (B (F k + i) + t)) : Int) : Rat) * f (mI M (a + 21185) (B (F k + i) + t)).toNat * ((nt M (a + 115) (F k + i) : Int) : Rat)⁻¹
          rw [inv_q ci m0, k9.2.1, k9.2.2.1, k9.1, w9.1]
          generalize ((up (B (F k + i) + t) * (nt M (a + 115) (F k + i) / dn (B (F k + i) + t)) : Int) : Rat) = A
          generalize f (to (B (F k + i) + t)).toNat = Y
          generalize ((nt M (a + 115) (F k + i) : Int) : Rat)⁻¹ = Z
          grind
        unfold leadQ ldA9
        rw [e23, Int.toNat_natCast, e25, e26, bl]
        constructor
        · rintro ⟨b, u1, u2, u3⟩
          refine ⟨_, List.mem_map.mpr ⟨b - B (F k + i), List.mem_range.mpr (by omega), rfl⟩, ?_⟩
          show J (mI M (a + 21185) (B (F k + i) + (b - B (F k + i)))).toNat
          rw [show B (F k + i) + (b - B (F k + i)) = b by omega, (wk b (by omega)).1, ← (w1 b (by omega)).1]
          exact u3
        · rintro ⟨y, y1, y2⟩
          obtain ⟨t, t3, t4⟩ := List.mem_map.mp y1
          have t5 := List.mem_range.mp t3
          rw [← t4] at y2
          have y3 : J (mI M (a + 21185) (B (F k + i) + t)).toNat := y2
          refine ⟨B (F k + i) + t, by omega, by omega, ?_⟩
          rw [(w1 _ (by omega)).1, ← (wk _ (by omega)).1]
          exact y3
      · rw [if_neg hi] at hc'
        cases hc'
  · rw [if_neg hk] at hx
    cases hx
end TSV
end
