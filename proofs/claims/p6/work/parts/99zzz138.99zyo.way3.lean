section
/-! The reference: way, from its beginning. -/
section WAY3
variable {G : mG} {d a g T R W C Z n L w w0 : Nat} {M M2 : mM} {E : Nat → Nat} {tg mul Sm A D : Int} {B : Nat → Nat}
theorem wyF.gs (h : wyF M a M2) (wd : Wd M a) (hg : g = a + 13 ∨ g = a + 49) : Gs M M2 g :=
  gs_st wd hg h.1 (fun q hq => wyP_in hq) (fun q hq z => by
    have z' : q = g + 1 ∨ q = g + 3 ∨ q = g + 5 ∨ q = g + 7 ∨ q = g + 9 ∨ q = g + 11 ∨ q = g + 30 ∨ q = g + 32 ∨ q = g + 34 := z
    have hq' : q = a + 99 ∨ q = a + 113 := hq
    omega) (fun x hx => by have := wyS_un hx; omega)
theorem wyQ.up {n' : Nat} {M' : mM} (h : wyQ M a g T R W C Z E tg n' L w w0 mul Sm B M') (hn : n ≤ n') : wyQ M a g T R W C Z E tg n L w w0 mul Sm B M' := by
  obtain ⟨h1, h2, h3, h4⟩ := h
  refine ⟨h1, h2, h3, h4.imp (fun z => z) (fun z => ?_)⟩
  obtain ⟨z1, n'', w'', z2, z3⟩ := z
  exact ⟨z1, n'', w'', by omega, z3⟩
/-- a state has been found or made -/
theorem wI.so {b n' : Nat} {x : Int} {M3 : mM} (h : wI M a g T R W C Z E tg n L w w0 mul Sm A D B b M2) (h1 : n' = n ∨ n' = n + 1) (h2 : n' ≤ 512) (m : Mv (fun _ => False) (fun y => y = a ∨ y = a + 105) M2 a M3) (h3 : mI M3 a 29 = (n' : Int)) (h4 : ∀ i, i ≠ 29 → mI M3 a i = mI M2 a i) (h5 : Vx M3 a g n' W) : wI M a g T R W C Z E tg n' L w w0 mul Sm A D B b M3 := by
  obtain ⟨x1, gg, en, xd, op, cA, cD⟩ := h
  have w2 := gg.2.1
  have hg := gg.2.2.1.2
  have no : ∀ q : Nat, False → q ∈ nums a := fun _ z => z.elim
  have gs := gs_st w2 hg m no (fun _ z => z.elim) (fun x z => by omega)
  obtain ⟨d1, d2, d3, d4, d5, d6, d7⟩ := xd
  have s : ∀ {q}, q ∈ nums a → sl M2 M3 q := fun hq => (m.lst hq (fun z => z)).sl
  have c : ∀ o, frO o → o ≠ 0 → o ≠ 105 → mI M3 (a + o) = mI M2 (a + o) ∧ mL M3 (a + o) = mL M2 (a + o) := fun o fo o0 o1 => m.cellL w2 no (offx fo) (by omega)
  have c85 := c 21185 (by decide) (by decide) (by decide)
  have c86 := c 21186 (by decide) (by decide) (by decide)
  have c87 := c 21187 (by decide) (by decide) (by decide)
  have c89 := c 21189 (by decide) (by decide) (by decide)
  have c90 := c 21190 (by decide) (by decide) (by decide)
  refine ⟨x1.trans (wyF.mk w2 m (fun _ z => z.elim) (fun x z => ?_) (fun i _ _ _ i4 _ => h4 i i4)), gg.gs m.1 m.2.1 (by rw [m.rfl_a w2 no]) gs, en.mv w2 m no gs (fun x z => by omega), ⟨⟨h3, by omega, h2⟩, by rw [h4 40 (by decide)]; exact d2, h5, fun j hj => ?_, by rw [(s k109).1, (s k111).1, (s k113).1, (s k115).1]; exact d5, d6, fun i hi => (d7 i hi).cg ((s k111).2 i) ((s k113).2 i) ((s k115).2 i) (fun j _ _ => by rw [c86.2, c87.2]; exact ⟨rfl, rfl⟩)⟩, op.mv w2 m no (fun _ z => z.elim) (fun x z => by omega), by rw [c89.2]; exact cA, by rw [c90.2]; exact cD⟩
  · rcases z with z | z
    · exact Or.inl (Or.inl z)
    · exact Or.inr (Or.inl z)
  · rw [c85.1, c86.2, c87.2]
    have := d4 j hj
    exact ⟨by omega, this.2⟩
theorem s_way59 {b c fs mn : Nat} {pl : Int} (h0 : GG M a g T R W C Z E tg) (ipl : i32 pl) (hb : b < 8) (hc : c < C) (h28 : mI M (g + 28) (8 * c + b) = (fs : Int)) (h29 : mI M (g + 29) (8 * c + b) = (mn : Int)) (hfm : fs + mn ≤ Z) (hw0 : B L = w0) (hA : 0 < A ∧ A < 1000000000) (hD : 0 < D ∧ D < 1000000000) (hdm : D ∣ mul) (hle : Sm + A * (mul / D) ≤ mul) (hL : L ≤ 4096) : ∀ (t i : Nat) (M2 : mM), fs ≤ i → i + t = fs + mn → wI M a g T R W C Z E tg n L w w0 mul Sm A D B b M2 → (mI M2 a 16 = 0 → Nxv M2 a g W) → h_MM_way_59 G (d + 6) a b pl (8 * c + b : Nat) fs i M2 (fun M' => mOk M' ∧ wyQ M a g T R W C Z E tg n L w w0 mul (Sm + A * (mul / D)) B M') := by
  have wd0 := h0.2.1
  have hg := h0.2.2.1.2
  have hBd := h0.2.2.2.2.2.2.2.1.1
  have hZ := h0.2.2.2.2.1.2
  have ib : i32 (b : Int) := i32s (by omega) (by omega)
  have ix : i32 ((8 * c + b : Nat) : Int) := i32s (by omega) (by omega)
  have ifs : i32 (fs : Int) := i32s (by omega) (by omega)
  have b480 : ((0 : Int) ≤ ((8 * c + b : Nat) : Int) ∧ ((8 * c + b : Nat) : Int) < ((480 : Nat) : Int)) := by omega
  intro t
  induction t with
  | zero =>
    intro i M2 i0 hi h hnx
    have ei : i = fs + mn := by omega
    subst ei
    obtain ⟨x1, gg, en, xd, op, cA, cD⟩ := id h
    have o2 := gg.1
    have w2 := gg.2.1
    have gs := x1.gs wd0 hg
    have r29 : mI M2 (g + 29) (8 * c + b) = (mn : Int) := by rw [(gs.2.1 29 (by omega) (by omega)).1]; exact h29
    refine k_MM_way_59 o2 ib ipl ix ifs (i32s (by omega) (by omega)) ⟨w2.1.1, ?_⟩
    rw [gg.2.2.1.1, show mR M2 g 26 = g + 29 from (w2.gp hg).2.2.1.2.2.2.2.2.2.2.2.2.2.2.1, Int.toNat_natCast, r29]
    refine ⟨(w2.gp hg).1, (w2.gp hg).2.2.2.2.2.2.2.2.2.2.2.2.1, by rw [(w2.gp hg).2.2.2.2.2.2.2.2.2.2.2.2.2]; exact b480, i32s (by omega) (by omega), fun _ => ⟨fun z16 => ?_, fun z16 => ⟨o2, h.x z16⟩⟩, fun q => absurd (Or.inl (by omega)) q⟩
    refine (s_MM_stateOf (d := d + 6) gg xd.1.1 xd.1.2.2 xd.2.2.1 (hnx z16)).mono (fun x M3 t3 => ?_)
    obtain ⟨ixx, o3, hs⟩ := t3
    refine ⟨ixx, o3, ?_⟩
    rcases hs with ⟨y1, y2⟩ | ⟨n', y1, y2, y3, y4, m3, y5, y6, y7⟩
    · subst y2
      refine ⟨fun q => by omega, fun _ => ⟨w2.1.1, ?_⟩⟩
      rw [gg.2.2.1.1, show mR M3 g 24 = g + 27 from (w2.gp hg).2.2.1.2.2.2.2.2.2.2.2.2.1]
      exact ⟨(w2.gp hg).1, (w2.gp hg).2.2.2.2.2.2.2.2.2.2.1.1, by rw [(w2.gp hg).2.2.2.2.2.2.2.2.2.2.1.2]; exact b480, (s_MM_stop ⟨by decide, by decide⟩ (o2 _ _).1 o2 w2).mono (fun M4 h4 => ⟨h4.1.1, h4.1.1, h.stp (by decide) h4⟩)⟩
    · have h3 := h.so (x := x) y1 y2 m3 y5 y6 y7
      have gg3 := h3.2.1
      have w3 := gg3.2.1
      have op3 := h3.2.2.2.2.1
      have l111 : mI M3 (a + 111) 1 = (L + 1 : Nat) := h3.2.2.2.1.2.2.2.2.1.2.1
      refine ⟨fun _ => ⟨w3.1.1, ?_⟩, fun q => absurd y3 q⟩
      rw [show mR M3 a 36 = a + 111 from w3.1.2.2.2.2.2.1.2.2.2.2.2.1, l111, show ((L + 1 : Nat) : Int) - 1 = (L : Int) by omega]
      refine ⟨(w3.nu k111).1, (s_MN_at o3 (w3.nu k111) (by show (L : Int) < mI M3 (a + 111) 1; rw [l111]; omega)).mono (fun u M4 e4 => ?_)⟩
      obtain ⟨e4, hu⟩ := e4
      subst e4
      have hu' : u = (w0 : Int) := hu.trans op3.2.1.1
      subst hu'
      refine ⟨i32s (by have := h3.2.2.2.1.2.1.2; have := op3.1; omega) (by have := h3.2.2.2.1.2.1.2; have := op3.1; omega), o3, ?_⟩
      have key := s_way187 (G := G) (d := d) ipl hb hw0 hA hD hdm hle ⟨y3, y4⟩ h3 (by rw [y6 16 (by decide)]; exact z16) hL (w - w0) w0 (Nat.le_refl _) (by have := op3.1; omega)
      have hq : ∀ M', (mOk M' ∧ wyQ M a g T R W C Z E tg n' L w w0 mul (Sm + A * (mul / D)) B M') → mOk M' ∧ wyQ M a g T R W C Z E tg n L w w0 mul (Sm + A * (mul / D)) B M' := fun M' z => ⟨z.1, z.2.up (by omega)⟩
      exact mWm.mono key (fun r M' z => ⟨z.1, hq M' z.2⟩)
  | succ t ih =>
    intro i M2 i0 hi h hnx
    obtain ⟨x1, gg, en, xd, op, cA, cD⟩ := id h
    have o2 := gg.1
    have w2 := gg.2.1
    have gs := x1.gs wd0 hg
    have r29 : mI M2 (g + 29) (8 * c + b) = (mn : Int) := by rw [(gs.2.1 29 (by omega) (by omega)).1]; exact h29
    have iZ : i < Z := by omega
    obtain ⟨z30, z32, z34⟩ := gg.2.2.2.2.2.2.1
    have hD2 := gg.2.2.2.2.2.2.2.1
    obtain ⟨s1, s2, s3⟩ := hD2.2.2.2.2.2.1 i iZ
    refine k_MM_way_59 o2 ib ipl ix ifs (i32s (by omega) (by omega)) ⟨w2.1.1, ?_⟩
    rw [gg.2.2.1.1, show mR M2 g 26 = g + 29 from (w2.gp hg).2.2.1.2.2.2.2.2.2.2.2.2.2.2.1, show mR M2 g 27 = g + 30 from (w2.gp hg).2.2.1.2.2.2.2.2.2.2.2.2.2.2.2.1, Int.toNat_natCast, r29]
    refine ⟨(w2.gp hg).1, (w2.gp hg).2.2.2.2.2.2.2.2.2.2.2.2.1, by rw [(w2.gp hg).2.2.2.2.2.2.2.2.2.2.2.2.2]; exact b480, i32s (by omega) (by omega), fun q => ⟨fun z16 => absurd z16 (by
      rcases q with q | q
      · omega
      · exact q), fun z16 => ⟨o2, h.x z16⟩⟩, fun q => ⟨(w2.nu (n30 hg)).1, ?_⟩⟩
    have z16 : mI M2 a 16 = 0 := Classical.byContradiction (fun z => q (Or.inr z))
    have rd : ∀ {p : Nat} {Q : Int → mM → Prop}, p ∈ nums a → (i : Int) < ln M2 p → (∀ z, z = nt M2 p i → i32 z → Q z M2) → Ci G y_MN_at (d + 6) [vr p, vi i] M2 Q := fun hp hk hQ => by
      refine (s_MN_at o2 (w2.nu hp) hk).mono (fun z M1 e1 => ?_)
      obtain ⟨e1, hz⟩ := e1
      subst e1
      exact hQ z hz (by rw [hz]; exact (o2 _ _).1)
    refine rd (n30 hg) (by rw [z30]; omega) (fun v hv iv => ⟨iv, o2, w2.1.1, ?_⟩)
    rw [gg.2.2.1.1, show mR M2 g 29 = g + 34 from (w2.gp hg).2.2.1.2.2.2.2.2.2.2.2.2.2.2.2.2.2]
    refine ⟨(w2.gp hg).1, (w2.nu (n34 hg)).1, rd (n34 hg) (by rw [z34]; omega) (fun rt hrt irt => ⟨irt, o2, w2.1.1, ?_⟩)⟩
    rw [gg.2.2.1.1, show mR M2 g 28 = g + 32 from (w2.gp hg).2.2.1.2.2.2.2.2.2.2.2.2.2.2.2.2.1]
    refine ⟨(w2.gp hg).1, (w2.nu (n32 hg)).1, rd (n32 hg) (by rw [z32]; omega) (fun p hp ip => ⟨ip, o2, w2.1.1, ?_⟩)⟩
    rw [← hv] at s1 s2 s3
    rw [← hrt] at s3
    obtain ⟨v', hv', hvW⟩ : ∃ v' : Nat, v = (v' : Int) ∧ v' < W := ⟨v.toNat, by omega, by omega⟩
    subst hv'
    refine (s_MM_set1 (d := d) gg en (hnx z16) hvW s3 ip).mono (fun M3 t3 => ⟨t3.1, ?_⟩)
    obtain ⟨-, m3, f3, gg3, en3, nx3⟩ := t3
    have h3 := h.st m3 (fun q hq => hq) (fun x hx => hx) f3 en3
    rw [show (i : Int) + 1 = ((i + 1 : Nat) : Int) by omega]
    exact ih (i + 1) M3 (by omega) (by omega) h3 nx3
end WAY3
end
section
/-! The reference: way; the open command. -/
section WAY4
variable {G : mG} {d a g T R W C Z n L w w0 : Nat} {M M2 M3 M' : mM} {E : Nat → Nat} {tg mul Sm A D : Int} {B : Nat → Nat} {P S : Nat → Prop}
theorem s_MM_way {b c : Nat} {pl : Int} (h : wI M a g T R W C Z E tg n L w w0 mul Sm A D B b M) (ipl : i32 pl) (hc : c < C) (hbn : (b : Int) < mI M (g + 25) c) (hw0 : B L = w0) (hA : 0 < A ∧ A < 1000000000) (hD : 0 < D ∧ D < 1000000000) (hdm : D ∣ mul) (hle : Sm + A * (mul / D) ≤ mul) (hL : L ≤ 4096) : Cv G y_MM_way (d + 7) [vr a, vi c, vi b, vi pl] M (fun M' => mOk M' ∧ wyQ M a g T R W C Z E tg n L w w0 mul (Sm + A * (mul / D)) B M') := by
  obtain ⟨x1, gg, en, xd, op, cA, cD⟩ := id h
  have wd := gg.2.1
  have hg := gg.2.2.1.2
  have hD0 := gg.2.2.2.2.2.2.2.1
  have hBd := hD0.1
  have cc := hD0.2.2.2.2.1 c hc
  have hb : b < 8 := by have := cc.2.2.1; omega
  have bc := cc.2.2.2 b hbn
  obtain ⟨fs, hfs⟩ : ∃ fs : Nat, mI M (g + 28) (8 * c + b) = (fs : Int) := ⟨(mI M (g + 28) (8 * c + b)).toNat, by have := bc.2.1; omega⟩
  obtain ⟨mn, hmn⟩ : ∃ mn : Nat, mI M (g + 29) (8 * c + b) = (mn : Int) := ⟨(mI M (g + 29) (8 * c + b)).toNat, by have := bc.2.2.1; omega⟩
  have hfm : fs + mn ≤ Z := by have := bc.2.2.2; omega
  have g12 := gg.2.2.2.2.2.1.2.1
  have ib : i32 (b : Int) := i32s (by omega) (by omega)
  have ix : i32 ((8 * c + b : Nat) : Int) := i32s (by omega) (by omega)
  have b480 : ((0 : Int) ≤ ((8 * c + b : Nat) : Int) ∧ ((8 * c + b : Nat) : Int) < ((480 : Nat) : Int)) := by omega
  refine k_MM_way gg.1 (i32s (by omega) (by omega)) ib ipl ?_
  rw [show 8 * (c : Int) + (b : Int) = ((8 * c + b : Nat) : Int) by omega]
  suffices H : ∀ (t v : Nat) (M2 : mM), v + t = W → wI M a g T R W C Z E tg n L w w0 mul Sm A D B b M2 → mI M2 (a + 101) = mI M (a + 101) → (∀ v', v' < v → mI M2 (a + 21188) v' = mI M (a + 101) v') → h_MM_way_11 G (d + 6) a b pl (8 * c + b : Nat) v M2 (fun M' => mOk M' ∧ wyQ M a g T R W C Z E tg n L w w0 mul (Sm + A * (mul / D)) B M') from H W 0 M (by omega) h rfl (fun v' hv' => absurd hv' (by omega))
  intro t
  induction t with
  | zero =>
    intro v M2 hv h2 e101 hn
    have ev : v = W := by omega
    subst ev
    have gg2 := h2.2.1
    have w2 := gg2.2.1
    have gs := h2.1.gs wd hg
    have r28 : mI M2 (g + 28) (8 * c + b) = (fs : Int) := by rw [(gs.2.1 28 (by omega) (by omega)).1]; exact hfs
    refine k_MM_way_11 gg2.1 ib ipl ix (i32s (by omega) (by omega)) ⟨w2.1.1, ?_⟩
    rw [gg2.2.2.1.1, gg2.2.2.2.2.2.1.2.1, show mR M2 g 25 = g + 28 from (w2.gp hg).2.2.1.2.2.2.2.2.2.2.2.2.2.1, Int.toNat_natCast, r28]
    refine ⟨(w2.gp hg).1, fun _ => ⟨(w2.gp hg).2.2.2.2.2.2.2.2.2.2.2.1.1, by rw [(w2.gp hg).2.2.2.2.2.2.2.2.2.2.2.1.2]; exact b480, s_way59 gg ipl hb hc hfs hmn hfm hw0 hA hD hdm hle hL mn fs M2 (Nat.le_refl _) rfl h2 (fun _ v' hv' => ?_)⟩, fun q => absurd (Int.le_refl _) q⟩
    rw [(gs.2.1 19 (by omega) (by omega)).1, (gs.2.1 20 (by omega) (by omega)).1, hn v' hv']
    exact en.2 v' hv'
  | succ t ih =>
    intro v M2 hv h2 e101 hn
    have gg2 := h2.2.1
    have w2 := gg2.2.1
    have A1 : mK M2 (a + 101) = 30 ∧ mN M2 (a + 101) = 12 := w2.1.2.2.2.2.2.2.2.1.2.2.1
    have A8 : mK M2 (a + 21188) = 30 ∧ mN M2 (a + 21188) = 12 := w2.1.2.2.2.2.2.2.2.2.2.1.2.2.2.1
    have b12 : ((0 : Int) ≤ (v : Int) ∧ (v : Int) < ((12 : Nat) : Int)) := by omega
    refine k_MM_way_11 gg2.1 ib ipl ix (i32s (by omega) (by omega)) ⟨w2.1.1, ?_⟩
    rw [gg2.2.2.1.1, gg2.2.2.2.2.2.1.2.1, show mR M2 a 25 = a + 101 from w2.1.2.2.2.2.1.2.2.2.2.2.2.2.2.2.1, show mR M2 a 44 = a + 21188 from w2.1.2.2.2.2.2.2.1.2.2.2.1, Int.toNat_natCast, Int.toNat_natCast, e101]
    refine ⟨(w2.gp hg).1, fun q => absurd q (by omega), fun _ => ⟨A1.1, by rw [A1.2]; exact b12, A8.1, by rw [A8.2]; exact b12, fun M3 e3 => ?_⟩⟩
    obtain ⟨m3, f3, l3⟩ := mv_cell (gg.1 _ _).1 gg2.1 w2 (show a ≤ a + 21188 by omega) (offx (a := a) (o := 21188) (by decide)) e3
    have no : ∀ q : Nat, False → q ∈ nums a := fun _ z => z.elim
    have gs3 := gs_st w2 hg m3 no (fun _ z => z.elim) (fun x z => by omega)
    have en3 := h2.2.2.1.mv w2 m3 no gs3 (fun x z => by omega)
    have h3 := h2.st m3 (fun _ z => z.elim) (fun x z => Or.inr z) (fun i _ _ _ => by rw [(m3.fld w2 no (by omega)).1]) en3
    have nx := ih (v + 1) M3 (by omega) h3 (by rw [← e101]; exact (m3.cellL w2 no (offx (a := a) (o := 101) (by decide)) (by omega)).1) (fun v' hv' => ?_)
    · rw [show ((v + 1 : Nat) : Int) = (v : Int) + 1 by omega] at nx
      exact nx
    · rw [f3]
      by_cases y : v' = v
      · rw [if_pos ⟨rfl, y⟩, y]
      · rw [if_neg (fun z => y z.2)]
        exact hn v' (by omega)
/-- what exploring may change -/
abbrev xP (a : Nat) : Nat → Prop := fun q => q = a + 99 ∨ q = a + 109 ∨ q = a + 111 ∨ q = a + 113 ∨ q = a + 115
abbrev xS (a : Nat) : Nat → Prop := fun x => x = a ∨ (a + 97 ≤ x ∧ x ≤ a + 108) ∨ (a + 21185 ≤ x ∧ x ≤ a + 21190)
def xF (M : mM) (a : Nat) (M' : mM) : Prop := Mv (xP a) (xS a) M a M' ∧ ∀ i, i ≠ 16 → i ≠ 17 → i ≠ 23 → i ≠ 29 → i ≠ 40 → mI M' a i = mI M a i
theorem xP_in {q : Nat} (h : xP a q) : q ∈ nums a := by
  rcases h with h | h | h | h | h <;> rw [h]
  · exact n99
  · exact k109
  · exact k111
  · exact k113
  · exact k115
theorem xF.refl (o : mOk M) (w : Wd M a) : xF M a M := ⟨Mv.refl o w (fun q hq => w.lt (xP_in hq)), fun _ _ _ _ _ _ => rfl⟩
theorem xF.trans (h : xF M a M2) (k : xF M2 a M3) : xF M a M3 := ⟨h.1.trans k.1, fun i i1 i2 i3 i4 i5 => (k.2 i i1 i2 i3 i4 i5).trans (h.2 i i1 i2 i3 i4 i5)⟩
theorem xF.mk (w : Wd M a) (m : Mv P S M a M') (hP : ∀ q, P q → xP a q) (hS : ∀ x, S x → xS a x) (hf : ∀ i, i ≠ 16 → i ≠ 17 → i ≠ 23 → i ≠ 29 → i ≠ 40 → mI M' a i = mI M a i) : xF M a M' := ⟨m.mono hP hS (fun q hq => w.lt (xP_in hq)), hf⟩
theorem xe.xf (h : xe M a M') (w : Wd M a) : xF M a M' := xF.mk w h.1 (fun q hq => Or.inl hq) (fun x hx => by
  have hx' : x = a ∨ (a + 97 ≤ x ∧ x ≤ a + 98) ∨ (a + 102 ≤ x ∧ x ≤ a + 104) ∨ (a + 21188 ≤ x ∧ x ≤ a + 21190) := hx
  show x = a ∨ (a + 97 ≤ x ∧ x ≤ a + 108) ∨ (a + 21185 ≤ x ∧ x ≤ a + 21190)
  omega) (fun i i1 i2 i3 _ _ => h.2 i i1 i2 i3)
theorem wyF.xf (h : wyF M a M') (w : Wd M a) : xF M a M' := xF.mk w h.1 (fun q hq => by
  have hq' : q = a + 99 ∨ q = a + 113 := hq
  show q = a + 99 ∨ q = a + 109 ∨ q = a + 111 ∨ q = a + 113 ∨ q = a + 115
  omega) (fun x hx => by
  have := wyS_un hx
  show x = a ∨ (a + 97 ≤ x ∧ x ≤ a + 108) ∨ (a + 21185 ≤ x ∧ x ≤ a + 21190)
  omega) h.2
theorem xF.gs (h : xF M a M') (wd : Wd M a) (hg : g = a + 13 ∨ g = a + 49) : Gs M M' g :=
  gs_st wd hg h.1 (fun q hq => xP_in hq) (fun q hq z => by
    have z' : q = g + 1 ∨ q = g + 3 ∨ q = g + 5 ∨ q = g + 7 ∨ q = g + 9 ∨ q = g + 11 ∨ q = g + 30 ∨ q = g + 32 ∨ q = g + 34 := z
    have hq' : q = a + 99 ∨ q = a + 109 ∨ q = a + 111 ∨ q = a + 113 ∨ q = a + 115 := hq
    omega) (fun x hx => by
    have hx' : x = a ∨ (a + 97 ≤ x ∧ x ≤ a + 108) ∨ (a + 21185 ≤ x ∧ x ≤ a + 21190) := hx
    omega)
theorem wyF.tab (h : wyF M a M') (w : Wd M a) : mI M' (a + 106) = mI M (a + 106) ∧ mI M' (a + 107) = mI M (a + 107) ∧ mI M' (a + 108) = mI M (a + 108) ∧ mL M' (a + 21189) = mL M (a + 21189) ∧ mL M' (a + 21190) = mL M (a + 21190) := by
  have hin : ∀ q, wyP a q → q ∈ nums a := fun q hq => wyP_in hq
  have ns : ∀ o, o = 106 ∨ o = 107 ∨ o = 108 ∨ o = 21189 ∨ o = 21190 → ¬ wyS a (a + o) := fun o ho z => by have := wyS_un z; omega
  exact ⟨(h.1.cellL w hin (offx (a := a) (o := 106) (by decide)) (ns _ (by omega))).1, (h.1.cellL w hin (offx (a := a) (o := 107) (by decide)) (ns _ (by omega))).1, (h.1.cellL w hin (offx (a := a) (o := 108) (by decide)) (ns _ (by omega))).1, (h.1.cellL w hin (offx (a := a) (o := 21189) (by decide)) (ns _ (by omega))).2, (h.1.cellL w hin (offx (a := a) (o := 21190) (by decide)) (ns _ (by omega))).2⟩
theorem xe.tab (h : xe M a M') (w : Wd M a) : mI M' (a + 106) = mI M (a + 106) ∧ mI M' (a + 107) = mI M (a + 107) ∧ mI M' (a + 108) = mI M (a + 108) := by
  have ns : ∀ o, o = 106 ∨ o = 107 ∨ o = 108 → ¬ xE a (a + o) := fun o ho z => by
    have z' : a + o = a ∨ (a + 97 ≤ a + o ∧ a + o ≤ a + 98) ∨ (a + 102 ≤ a + o ∧ a + o ≤ a + 104) ∨ (a + 21188 ≤ a + o ∧ a + o ≤ a + 21190) := z
    omega
  exact ⟨(h.1.cellL w in99 (offx (a := a) (o := 106) (by decide)) (ns _ (by omega))).1, (h.1.cellL w in99 (offx (a := a) (o := 107) (by decide)) (ns _ (by omega))).1, (h.1.cellL w in99 (offx (a := a) (o := 108) (by decide)) (ns _ (by omega))).1⟩
end WAY4
end
section
/-! The reference: an enabled command, its ways. -/
section ENB
variable {G : mG} {d a g T R W C Z n L w0 k : Nat} {M M2 M' : mM} {E : Nat → Nat} {tg mul : Int} {B : Nat → Nat}
/-- a command has been explored in state k -/
def enQ (M : mM) (a g T R W C Z : Nat) (E : Nat → Nat) (tg : Int) (n L k : Nat) (B : Nat → Nat) (M' : mM) : Prop := xF M a M' ∧ GG M' a g T R W C Z E tg ∧ En M' a g R W ∧ mI M' (a + 107) = mI M (a + 107) ∧ (∀ k', k' ≠ k → mI M' (a + 108) k' = mI M (a + 108) k') ∧ (mI M' a 16 ≠ 0 ∨ (mI M' a 16 = 0 ∧ mI M' (a + 108) k = mI M (a + 108) k + 1 ∧ ∃ (n' w' : Nat) (B' : Nat → Nat), n ≤ n' ∧ (∀ i, i ≤ L → B' i = B i) ∧ B' (L + 1) = w' ∧ XD M' a g n' W (L + 1) w' (L + 1) B'))
/-- the command is complete -/
theorem Op.close {n' w' : Nat} (h : XD M' a g n' W L w' (L + 1) B) (hw0 : B L = w0) (op : Op M' a L w0 w' mul mul) (h8 : w' ≤ w0 + 8) : ∃ B' : Nat → Nat, (∀ i, i ≤ L → B' i = B i) ∧ B' (L + 1) = w' ∧ XD M' a g n' W (L + 1) w' (L + 1) B' := by
  obtain ⟨p1, p2, p3, p4, p5⟩ := op
  have ne : w0 < w' := by
    by_cases z : w0 < w'
    · exact z
    · rw [show w' - w0 = 0 by omega] at p5
      have : (0 : Int) = mul := p5
      omega
  obtain ⟨B', hB⟩ : ∃ B' : Nat → Nat, ∀ i, B' i = if i ≤ L then B i else w' := ⟨fun i => if i ≤ L then B i else w', fun _ => rfl⟩
  have bl : ∀ i, i ≤ L → B' i = B i := fun i hi => by rw [hB, if_pos hi]
  have bL : B' (L + 1) = w' := by rw [hB, if_neg (by omega)]
  refine ⟨B', bl, bL, ?_⟩
  obtain ⟨h1, h2, h3, h4, h5, h6, h7⟩ := h
  refine ⟨h1, h2, h3, h4, h5, ⟨by rw [bl 0 (by omega)]; exact h6.1, by rw [bL]; exact Nat.le_refl _, Nat.le_refl _⟩, fun i hi => ?_⟩
  by_cases z : i = L
  · subst z
    unfold okc
    rw [bL, bl i (Nat.le_refl _), hw0, p2.2.2]
    exact ⟨⟨ne, h8⟩, ⟨p2.1, p2.2.1⟩, p3, p4, p5⟩
  · have := h7 i (by omega)
    unfold okc at this ⊢
    rw [bl i (by omega), bl (i + 1) (by omega)]
    exact this
/-- inside the loop over the branches -/
def eI (M : mM) (a g T R W C Z : Nat) (E : Nat → Nat) (tg : Int) (n L w0 k : Nat) (mul : Int) (B : Nat → Nat) (cA cD : Nat → Int) (b : Nat) (M2 : mM) : Prop := xF M a M2 ∧ GG M2 a g T R W C Z E tg ∧ En M2 a g R W ∧ (mI M2 (a + 107) = mI M (a + 107) ∧ (∀ k', k' ≠ k → mI M2 (a + 108) k' = mI M (a + 108) k') ∧ mI M2 (a + 108) k = mI M (a + 108) k + 1) ∧ (mI M2 a 16 = 0 → (mL M2 (a + 21189) = cA ∧ mL M2 (a + 21190) = cD) ∧ ∃ n2 w2 : Nat, n ≤ n2 ∧ XD M2 a g n2 W L w2 (L + 1) B ∧ Op M2 a L w0 w2 mul (sm (fun b' => cA b' * (mul / cD b')) b) ∧ w2 ≤ w0 + b)
theorem s_en201 {c nb : Nat} {pl : Int} {cA cD : Nat → Int} (h0 : GG M a g T R W C Z E tg) (ipl : i32 pl) (hc : c < C) (hnb : mI M (g + 25) c = (nb : Int)) (hw0 : B L = w0) (hL : L ≤ 4096) (hch : ∀ b', b' < nb → 0 ≤ cA b' ∧ cA b' ≤ cD b' ∧ 1 ≤ cD b' ∧ cD b' < 1000000000 ∧ cD b' ∣ mul) (hmul : 1 ≤ mul) (hsum : sm (fun b' => cA b' * (mul / cD b')) nb = mul) : ∀ (t b : Nat) (M2 : mM), b + t = nb → eI M a g T R W C Z E tg n L w0 k mul B cA cD b M2 → h_MM_enabled_201 G (d + 7) a c pl b M2 (fun M' => mOk M' ∧ enQ M a g T R W C Z E tg n L k B M') := by
  have wd0 := h0.2.1
  have hg := h0.2.2.1.2
  have hBd := h0.2.2.2.2.2.2.2.1.1
  have nb8 : nb ≤ 8 := by
    have := (h0.2.2.2.2.2.2.2.1.2.2.2.2.1 c hc).2.2.1
    omega
  have ic : i32 (c : Int) := i32s (by omega) (by omega)
  have b60 : ((0 : Int) ≤ (c : Int) ∧ (c : Int) < ((60 : Nat) : Int)) := by omega
  have term : ∀ b', b' < nb → 0 ≤ cA b' * (mul / cD b') := fun b' hb' => by
    have := hch b' hb'
    exact Int.mul_nonneg (by omega) (Int.ediv_nonneg (by omega) (by omega))
  have finx : ∀ (b : Nat) (M2 : mM), eI M a g T R W C Z E tg n L w0 k mul B cA cD b M2 → mI M2 a 16 ≠ 0 → mOk M2 ∧ enQ M a g T R W C Z E tg n L k B M2 := fun b M2 h z => ⟨h.2.1.1, h.1, h.2.1, h.2.2.1, h.2.2.2.1.1, h.2.2.2.1.2.1, Or.inl z⟩
  intro t
  induction t with
  | zero =>
    intro b M2 hb h
    have eb : b = nb := by omega
    subst eb
    obtain ⟨x1, gg, en, tb, hh⟩ := id h
    have w2 := gg.2.1
    have gs := x1.gs wd0 hg
    have r25 : mI M2 (g + 25) c = (b : Int) := by rw [(gs.2.1 25 (by omega) (by omega)).1]; exact hnb
    refine k_MM_enabled_201 gg.1 ic ipl (i32s (by omega) (by omega)) ⟨w2.1.1, ?_⟩
    rw [gg.2.2.1.1, show mR M2 g 22 = g + 25 from (w2.gp hg).2.2.1.2.2.2.2.2.2.2.1, Int.toNat_natCast, r25]
    refine ⟨(w2.gp hg).1, (w2.gp hg).2.2.2.2.2.2.2.2.1.1, by rw [(w2.gp hg).2.2.2.2.2.2.2.2.1.2]; exact b60, fun _ => ?_, fun q => absurd (Or.inl (Int.le_refl _)) q⟩
    by_cases z : mI M2 a 16 = 0
    · obtain ⟨-, n2, w2', y1, y2, y3, y4⟩ := hh z
      rw [hsum] at y3
      obtain ⟨B', u1, u2, u3⟩ := Op.close y2 hw0 y3 (by omega)
      exact ⟨gg.1, x1, gg, en, tb.1, tb.2.1, Or.inr ⟨z, tb.2.2, n2, w2', B', y1, u1, u2, u3⟩⟩
    · exact finx b M2 h z
  | succ t ih =>
    intro b M2 hb h
    obtain ⟨x1, gg, en, tb, hh⟩ := id h
    have w2 := gg.2.1
    have gs := x1.gs wd0 hg
    have r25 : mI M2 (g + 25) c = (nb : Int) := by rw [(gs.2.1 25 (by omega) (by omega)).1]; exact hnb
    have b8 : ((0 : Int) ≤ (b : Int) ∧ (b : Int) < ((8 : Nat) : Int)) := by omega
    have hbn : b < nb := by omega
    refine k_MM_enabled_201 gg.1 ic ipl (i32s (by omega) (by omega)) ⟨w2.1.1, ?_⟩
    rw [gg.2.2.1.1, show mR M2 g 22 = g + 25 from (w2.gp hg).2.2.1.2.2.2.2.2.2.2.1, Int.toNat_natCast, r25, (r4546 w2).1.1, Int.toNat_natCast]
    refine ⟨(w2.gp hg).1, (w2.gp hg).2.2.2.2.2.2.2.2.1.1, by rw [(w2.gp hg).2.2.2.2.2.2.2.2.1.2]; exact b60, fun q => finx b M2 h ?_, fun q => ⟨(r4546 w2).2.1.1, by rw [(r4546 w2).2.1.2]; exact b8, fun q0 => ?_, fun q0 => ?_⟩⟩
    · rcases q with q | q
      · omega
      · exact q
    · have z : mI M2 a 16 = 0 := Classical.byContradiction (fun z => q (Or.inr z))
      obtain ⟨⟨e1, e2⟩, n2, w2', y1, y2, y3, y4⟩ := hh z
      have c0 : cA b = 0 := by rw [← e1]; exact (cmpz _ _).2.2.2.1.1 q0
      rw [show (b : Int) + 1 = ((b + 1 : Nat) : Int) by omega]
      refine ih (b + 1) M2 (by omega) ⟨x1, gg, en, tb, fun _ => ⟨⟨e1, e2⟩, n2, w2', y1, y2, ?_, by omega⟩⟩
      have : sm (fun b' => cA b' * (mul / cD b')) (b + 1) = sm (fun b' => cA b' * (mul / cD b')) b := by
        show sm (fun b' => cA b' * (mul / cD b')) b + cA b * (mul / cD b) = _
        rw [c0, Int.zero_mul]; omega
      rw [this]
      exact y3
    · have z : mI M2 a 16 = 0 := Classical.byContradiction (fun z => q (Or.inr z))
      obtain ⟨⟨e1, e2⟩, n2, w2', y1, y2, y3, y4⟩ := hh z
      have c0 : cA b ≠ 0 := fun y => q0 ((cmpz _ _).2.2.2.1.2 (by rw [e1]; exact y))
      obtain ⟨k1, k2, k3, k4, k5⟩ := hch b hbn
      have wi : wI M2 a g T R W C Z E tg n2 L w2' w0 mul (sm (fun b' => cA b' * (mul / cD b')) b) (cA b) (cD b) B b M2 := ⟨wyF.mk (P := fun _ => False) (S := fun _ => False) w2 (Mv.refl gg.1 w2 (fun _ z => z.elim)) (fun _ z => z.elim) (fun _ z => z.elim) (fun _ _ _ _ _ _ => rfl), gg, en, y2, y3, by rw [e1], by rw [e2]⟩
      have le : sm (fun b' => cA b' * (mul / cD b')) b + cA b * (mul / cD b) ≤ mul := by
        have := sm_part (f := fun b' => cA b' * (mul / cD b')) (a := b + 1) (nb - (b + 1)) (fun c hc => term c (by omega))
        rw [show b + 1 + (nb - (b + 1)) = nb by omega, hsum] at this
        exact this
      refine (s_MM_way (d := d) wi ipl hc (by rw [r25]; omega) hw0 ⟨by omega, by omega⟩ ⟨by omega, by omega⟩ k5 le hL).mono (fun M3 t3 => ⟨t3.1, ?_⟩)
      obtain ⟨-, W3, gg3, en3, hq⟩ := t3
      have tab := W3.tab w2
      rw [show (b : Int) + 1 = ((b + 1 : Nat) : Int) by omega]
      refine ih (b + 1) M3 (by omega) ⟨x1.trans (W3.xf w2), gg3, en3, ?_, fun z3 => ?_⟩
      · rw [tab.2.1, tab.2.2.1]; exact tb
      · rcases hq with y | ⟨-, n3, w3, u1, u2, u3, u4⟩
        · exact absurd z3 y
        · exact ⟨⟨tab.2.2.2.1.trans e1, tab.2.2.2.2.trans e2⟩, n3, w3, by omega, u3, u4, by omega⟩
end ENB
end
section
/-! The reference: enabled. -/
section ENB2
variable {G : mG} {d a g T R W C Z n L w k : Nat} {M M2 M3 : mM} {E : Nat → Nat} {tg mul : Int} {B : Nat → Nat}
/-- before the command is put down -/
def eB (M : mM) (a g T R W C Z : Nat) (E : Nat → Nat) (tg : Int) (n L w : Nat) (B : Nat → Nat) (M2 : mM) : Prop := xF M a M2 ∧ GG M2 a g T R W C Z E tg ∧ En M2 a g R W ∧ XD M2 a g n W L w L B ∧ mI M2 (a + 107) = mI M (a + 107) ∧ mI M2 (a + 108) = mI M (a + 108)
/-- the command is put on the lists -/
theorem en_put {c : Nat} {M4 M5 M6 M7 : mM} (h : eB M a g T R W C Z E tg n L w B M2) (hw : B L = w) (hk : 0 ≤ mI M (a + 108) k ∧ mI M (a + 108) k ≤ 5000) (hm : 1 ≤ mul ∧ mul < 1000000000) (a3 : adQ M2 (a + 109) c M3) (a4 : adQ M3 (a + 115) mul M4) (a5 : adQ M4 (a + 111) (w : Int) M5) (a6 : adQ M5 (a + 113) 0 M6) (e7 : M7 = mUI M6 (a + 108) k (mI M (a + 108) k + 1)) : (mL M7 = mL M6 ∧ mL M6 (a + 21189) = mL M2 (a + 21189) ∧ mL M6 (a + 21190) = mL M2 (a + 21190)) ∧ mI M7 a = mI M2 a ∧ mOk M7 ∧ xF M a M7 ∧ GG M7 a g T R W C Z E tg ∧ En M7 a g R W ∧ (mI M7 (a + 107) = mI M (a + 107) ∧ (∀ k', k' ≠ k → mI M7 (a + 108) k' = mI M (a + 108) k') ∧ mI M7 (a + 108) k = mI M (a + 108) k + 1) ∧ XD M7 a g n W L w (L + 1) B ∧ Op M7 a L w w mul 0 := by
  obtain ⟨x1, gg, en, xd, t107, t108⟩ := h
  obtain ⟨d1, d2, d3, d4, ⟨l109, l111, l113, l115⟩, d6, d7⟩ := id xd
  have w2 := gg.2.1
  have hg := gg.2.2.1.2
  have m3 := mv_add w2 k109 a3
  have w3 := m3.2.1
  have m4 := mv_add w3 k115 a4
  have w4 := m4.2.1
  have m5 := mv_add w4 k111 a5
  have w5 := m5.2.1
  have m6 := mv_add w5 k113 a6
  have w6 := m6.2.1
  obtain ⟨m7, f7, l7⟩ := mv_cell (v := mI M (a + 108) k + 1) (i32s (by omega) (by omega)) m6.1 w6 (show a ≤ a + 108 by omega) (offx (a := a) (o := 108) (by decide)) e7
  have i1 : ∀ {p q : Nat}, p ∈ nums a → q = p → q ∈ nums a := fun hp hq => by rw [hq]; exact hp
  have up : ∀ {Mx My : mM} {p : Nat}, Wd Mx a → xP a p → Mv (fun x => x = p) (fun _ => False) Mx a My → Mv (xP a) (fun x => x = a + 108) Mx a My := fun wx hp m => m.mono (fun q hq => by rw [hq]; exact hp) (fun _ z => z.elim) (fun q hq => wx.lt (xP_in hq))
  have mm : Mv (xP a) (fun x => x = a + 108) M2 a M7 := ((((up w2 (by show a + 109 = a + 99 ∨ a + 109 = a + 109 ∨ a + 109 = a + 111 ∨ a + 109 = a + 113 ∨ a + 109 = a + 115; omega) m3).trans (up w3 (by show a + 115 = a + 99 ∨ a + 115 = a + 109 ∨ a + 115 = a + 111 ∨ a + 115 = a + 113 ∨ a + 115 = a + 115; omega) m4)).trans (up w4 (by show a + 111 = a + 99 ∨ a + 111 = a + 109 ∨ a + 111 = a + 111 ∨ a + 111 = a + 113 ∨ a + 111 = a + 115; omega) m5)).trans (up w5 (by show a + 113 = a + 99 ∨ a + 113 = a + 109 ∨ a + 113 = a + 111 ∨ a + 113 = a + 113 ∨ a + 113 = a + 115; omega) m6)).trans (m7.mono (fun _ z => z.elim) (fun x z => z) (fun q hq => w6.lt (xP_in hq)))
  have hin : ∀ q, xP a q → q ∈ nums a := fun q hq => xP_in hq
  have aI : mI M7 a = mI M2 a := (mm.fld w2 hin (by omega)).1
  have F27 : xF M2 a M7 := xF.mk w2 mm (fun q hq => hq) (fun x hx => Or.inr (Or.inl (by omega))) (fun i _ _ _ _ _ => by rw [aI])
  have gs := F27.gs w2 hg
  have s7 : ∀ {q}, q ∈ nums a → sameN M6 M7 q := fun hq => m7.lst hq (fun z => z)
  have cl : ∀ o, frO o → o ≠ 108 → mI M7 (a + o) = mI M2 (a + o) ∧ mL M7 (a + o) = mL M2 (a + o) := fun o fo ho => mm.cellL w2 hin (offx fo) (by omega)
  have c86 := cl 21186 (by decide) (by decide)
  have c87 := cl 21187 (by decide) (by decide)
  have c85 := cl 21185 (by decide) (by decide)
  have c105 := cl 105 (by decide) (by decide)
  have c107 := cl 107 (by decide) (by decide)
  have c89 := cl 21189 (by decide) (by decide)
  have c90 := cl 21190 (by decide) (by decide)
  have e108 : mI M6 (a + 108) = mI M (a + 108) := by
    rw [← t108, (m6.cellL w5 (fun q hq => i1 k113 hq) (offx (a := a) (o := 108) (by decide)) (fun z => z)).1, (m5.cellL w4 (fun q hq => i1 k111 hq) (offx (a := a) (o := 108) (by decide)) (fun z => z)).1, (m4.cellL w3 (fun q hq => i1 k115 hq) (offx (a := a) (o := 108) (by decide)) (fun z => z)).1, (m3.cellL w2 (fun q hq => i1 k109 hq) (offx (a := a) (o := 108) (by decide)) (fun z => z)).1]
  -- the lists
  have q109 : ln M7 (a + 109) = (L + 1 : Nat) := by rw [(s7 k109).1, (m6.lst k109 (by omega)).1, (m5.lst k109 (by omega)).1, (m4.lst k109 (by omega)).1, a3.2.2.2.1, l109]; omega
  have z115 : ln M3 (a + 115) = (L : Int) := by rw [(m3.lst k115 (by omega)).1, l115]
  have z111 : ln M4 (a + 111) = (L : Int) := by rw [(m4.lst k111 (by omega)).1, (m3.lst k111 (by omega)).1, l111]
  have z113 : ln M5 (a + 113) = (L : Int) := by rw [(m5.lst k113 (by omega)).1, (m4.lst k113 (by omega)).1, (m3.lst k113 (by omega)).1, l113]
  have q115 : ln M7 (a + 115) = (L + 1 : Nat) := by rw [(s7 k115).1, (m6.lst k115 (by omega)).1, (m5.lst k115 (by omega)).1, a4.2.2.2.1, z115]; omega
  have q111 : ln M7 (a + 111) = (L + 1 : Nat) := by rw [(s7 k111).1, (m6.lst k111 (by omega)).1, a5.2.2.2.1, z111]; omega
  have q113 : ln M7 (a + 113) = (L + 1 : Nat) := by rw [(s7 k113).1, a6.2.2.2.1, z113]; omega
  have v115 : nt M7 (a + 115) L = mul := by
    rw [(s7 k115).2.1, (m6.lst k115 (by omega)).2.1, (m5.lst k115 (by omega)).2.1]
    have := a4.2.2.2.2.2.1
    rw [z115, Int.toNat_natCast] at this
    exact this
  have v111 : nt M7 (a + 111) L = (w : Int) := by
    rw [(s7 k111).2.1, (m6.lst k111 (by omega)).2.1]
    have := a5.2.2.2.2.2.1
    rw [z111, Int.toNat_natCast] at this
    exact this
  have v113 : nt M7 (a + 113) L = 0 := by
    rw [(s7 k113).2.1]
    have := a6.2.2.2.2.2.1
    rw [z113, Int.toNat_natCast] at this
    exact this
  have o115 : ∀ i, i < L → nt M7 (a + 115) i = nt M2 (a + 115) i := fun i hi => by rw [(s7 k115).2.1, (m6.lst k115 (by omega)).2.1, (m5.lst k115 (by omega)).2.1, a4.2.2.2.2.1 i (by rw [z115]; omega), (m3.lst k115 (by omega)).2.1]
  have o111 : ∀ i, i < L → nt M7 (a + 111) i = nt M2 (a + 111) i := fun i hi => by rw [(s7 k111).2.1, (m6.lst k111 (by omega)).2.1, a5.2.2.2.2.1 i (by rw [z111]; omega), (m4.lst k111 (by omega)).2.1, (m3.lst k111 (by omega)).2.1]
  have o113 : ∀ i, i < L → nt M7 (a + 113) i = nt M2 (a + 113) i := fun i hi => by rw [(s7 k113).2.1, a6.2.2.2.2.1 i (by rw [z113]; omega), (m5.lst k113 (by omega)).2.1, (m4.lst k113 (by omega)).2.1, (m3.lst k113 (by omega)).2.1]
  refine ⟨⟨l7, by rw [← l7]; exact c89.2, by rw [← l7]; exact c90.2⟩, aI, m7.1, x1.trans F27, gg.gs m7.1 m7.2.1 (by rw [mm.rfl_a w2 hin]) gs, en.mv w2 mm hin gs (fun x hx => by omega), ⟨by rw [c107.1]; exact t107, fun k' hk' => by rw [f7, if_neg (fun z => hk' z.2), e108], by rw [f7, if_pos ⟨rfl, rfl⟩]⟩, ⟨by rw [aI]; exact d1, by rw [aI]; exact d2, fun k' v hk' hv => ?_, fun j hj => by rw [c85.1, c86.2, c87.2]; exact d4 j hj, ⟨q109, q111, q113, q115⟩, ⟨d6.1, d6.2.1, by omega⟩, fun i hi => (d7 i hi).cg (o111 i hi) (o113 i hi) (o115 i hi) (fun j _ _ => by rw [c86.2, c87.2]; exact ⟨rfl, rfl⟩)⟩, Nat.le_refl _, ⟨v111, by rw [v113, Nat.sub_self]; rfl, v115⟩, hm, fun j j0 j1 => absurd j1 (by omega), by rw [Nat.sub_self]; rfl⟩
  rw [(gs.2.1 19 (by omega) (by omega)).1, (gs.2.1 20 (by omega) (by omega)).1, c105.1]
  exact d3 k' v hk' hv
end ENB2
end
section
/-! The reference: enabled, to its end. -/
section ENB3
variable {G : mG} {d a g T R W C Z n L w k : Nat} {M M2 M3 : mM} {E : Nat → Nat} {tg mul : Int} {B : Nat → Nat}
theorem XD.le {Ln : Nat} (h : XD M a g n W L w Ln B) : L ≤ 4096 := by
  have := h.mono 0 L (by omega) (Nat.le_refl _)
  have := h.2.2.2.2.2.1
  have := h.2.1.2
  omega
theorem sm_bd {f : Nat → Int} {c : Int} : ∀ (m : Nat), (∀ t, t < m → 0 ≤ f t ∧ f t ≤ c) → 0 ≤ sm f m ∧ sm f m ≤ m * c
  | 0, _ => ⟨Int.le_refl 0, by show (0 : Int) ≤ ((0 : Nat) : Int) * c; rw [show ((0 : Nat) : Int) = 0 from rfl, Int.zero_mul]; exact Int.le_refl 0⟩
  | m + 1, h => by
    have a := sm_bd m (fun t ht => h t (by omega))
    have b := h m (by omega)
    refine ⟨?_, ?_⟩
    · show 0 ≤ sm f m + f m
      omega
    · show sm f m + f m ≤ ((m + 1 : Nat) : Int) * c
      rw [show ((m + 1 : Nat) : Int) * c = (m : Int) * c + c by rw [Int.natCast_add, Int.add_mul]; show (m : Int) * c + 1 * c = _; rw [Int.one_mul]]
      omega
theorem en_stop {c p : Int} (h : eB M a g T R W C Z E tg n L w B M2) (hc : c ≠ 0) (q : Mv (fun _ => False) (fun x => x = a) M2 a M3 ∧ mI M3 a 16 = c ∧ mI M3 a 17 = p ∧ ∀ i, i ≠ 16 → i ≠ 17 → mI M3 a i = mI M2 a i) : enQ M a g T R W C Z E tg n L k B M3 := by
  obtain ⟨x1, gg, en, xd, t107, t108⟩ := h
  have w2 := gg.2.1
  have hg := gg.2.2.1.2
  have no : ∀ q : Nat, False → q ∈ nums a := fun _ z => z.elim
  have F : xF M2 a M3 := xF.mk w2 q.1 (fun _ z => z.elim) (fun x z => Or.inl z) (fun i i1 i2 _ _ _ => q.2.2.2 i i1 i2)
  have gs := F.gs w2 hg
  have c7 := (q.1.cellL w2 no (offx (a := a) (o := 107) (by decide)) (by omega)).1
  have c8 := (q.1.cellL w2 no (offx (a := a) (o := 108) (by decide)) (by omega)).1
  exact ⟨x1.trans F, gg.gs q.1.1 q.1.2.1 (by rw [q.1.rfl_a w2 no]) gs, en.mv w2 q.1 no gs (fun x z => by omega), by rw [c7]; exact t107, fun k' _ => by rw [c8, t108], Or.inl (by rw [q.2.1]; exact hc)⟩
theorem s_en87 {c nb : Nat} {pl : Int} (h0 : GG M a g T R W C Z E tg) (h : eB M a g T R W C Z E tg n L w B M2) (z16 : mI M2 a 16 = 0) (hw : B L = w) (hk5 : k < 512) (hk : 0 ≤ mI M (a + 108) k ∧ mI M (a + 108) k ≤ 5000) (hc : c < C) (hnb : mI M (g + 25) c = (nb : Int)) (ipl : i32 pl) (hm : 1 ≤ mul ∧ mul < 1000000000) (hch : chk1 M2 a nb) (hdv : ∀ b' : Nat, b' < nb → mL M2 (a + 21190) b' ∣ mul) : ∀ (t b : Nat), b + t = nb → h_MM_enabled_87 G (d + 7) a k c pl mul (sm (fun b' => mL M2 (a + 21189) b' * (mul / mL M2 (a + 21190) b')) b) b M2 (fun M' => mOk M' ∧ enQ M a g T R W C Z E tg n L k B M') := by
  obtain ⟨x1, gg, en, xd, t107, t108⟩ := id h
  have o2 := gg.1
  have w2 := gg.2.1
  have hg := gg.2.2.1.2
  have hBd := gg.2.2.2.2.2.2.2.1.1
  have wd0 := h0.2.1
  have gs := x1.gs wd0 hg
  have r25 : mI M2 (g + 25) c = (nb : Int) := by rw [(gs.2.1 25 (by omega) (by omega)).1]; exact hnb
  have nb8 : nb ≤ 8 := by
    have := (h0.2.2.2.2.2.2.2.1.2.2.2.2.1 c hc).2.2.1
    omega
  have hL := xd.le
  have term : ∀ b', b' < nb → 0 ≤ mL M2 (a + 21189) b' * (mul / mL M2 (a + 21190) b') ∧ mL M2 (a + 21189) b' * (mul / mL M2 (a + 21190) b') ≤ mul := fun b' hb' => by
    have c1 := hch b' hb'
    obtain ⟨q, hq⟩ := hdv b' hb'
    have e : mul / mL M2 (a + 21190) b' = q := by rw [hq]; exact Int.mul_ediv_cancel_left q (by omega)
    have q0 : 0 ≤ q := by rw [← e]; exact Int.ediv_nonneg (by omega) (by omega)
    rw [e]
    refine ⟨Int.mul_nonneg (by omega) q0, ?_⟩
    have := Int.mul_le_mul_of_nonneg_right c1.2.1 q0
    omega
  have ik : i32 (k : Int) := i32s (by omega) (by omega)
  have ic : i32 (c : Int) := i32s (by omega) (by omega)
  have im : i64 mul := ⟨by omega, by omega⟩
  have b60 : ((0 : Int) ≤ (c : Int) ∧ (c : Int) < ((60 : Nat) : Int)) := by omega
  have b512 : ((0 : Int) ≤ (k : Int) ∧ (k : Int) < ((512 : Nat) : Int)) := by omega
  have sb : ∀ b, b ≤ nb → i64 (sm (fun b' => mL M2 (a + 21189) b' * (mul / mL M2 (a + 21190) b')) b) := fun b hb => by
    have := sm_bd (f := fun b' => mL M2 (a + 21189) b' * (mul / mL M2 (a + 21190) b')) (c := mul) b (fun t ht => term t (by omega))
    have h8 : (b : Int) * mul ≤ 8 * 1000000000 := Int.mul_le_mul (by omega) (by omega) (by omega) (by omega)
    exact ⟨by omega, by omega⟩
  intro t
  induction t with
  | zero =>
    intro b hb
    have eb : b = nb := by omega
    subst eb
    refine k_MM_enabled_87 o2 ik ic ipl im (sb b (Nat.le_refl _)) (i32s (by omega) (by omega)) ⟨w2.1.1, ?_⟩
    rw [gg.2.2.1.1, show mR M2 g 22 = g + 25 from (w2.gp hg).2.2.1.2.2.2.2.2.2.2.1, Int.toNat_natCast, r25, show mR M2 a 35 = a + 109 from w2.1.2.2.2.2.2.1.2.2.2.2.1]
    refine ⟨(w2.gp hg).1, (w2.gp hg).2.2.2.2.2.2.2.2.1.1, by rw [(w2.gp hg).2.2.2.2.2.2.2.2.1.2]; exact b60, fun _ => ⟨fun q => ⟨(w2.nu k109).1, ?_⟩, fun q => (s_MM_stop ⟨by decide, by decide⟩ ipl o2 w2).mono (fun M3 h3 => ⟨h3.1.1, h3.1.1, en_stop h (by decide) h3⟩)⟩, fun q => absurd (Int.le_refl _) q⟩
    have hsum := (cmpz _ _).2.2.2.1.1 q
    obtain ⟨l109, l111, l113, l115⟩ := xd.2.2.2.2.1
    refine (s_MN_add ic o2 (w2.nu k109) (by rw [l109]; omega)).mono (fun M3 a3 => ?_)
    have m3 := mv_add w2 k109 a3
    have w3 := m3.2.1
    have z115 : ln M3 (a + 115) = (L : Int) := by rw [(m3.lst k115 (by omega)).1, l115]
    have z111 : ln M3 (a + 111) = (L : Int) := by rw [(m3.lst k111 (by omega)).1, l111]
    have z113 : ln M3 (a + 113) = (L : Int) := by rw [(m3.lst k113 (by omega)).1, l113]
    rw [show mR M3 a 38 = a + 115 from w3.1.2.2.2.2.2.1.2.2.2.2.2.2.2.1]
    refine ⟨m3.1, w3.1.1, (w3.nu k115).1, (s_MN_add ⟨by omega, by omega⟩ m3.1 (w3.nu k115) (by rw [z115]; omega)).mono (fun M4 a4 => ?_)⟩
    have m4 := mv_add w3 k115 a4
    have w4 := m4.2.1
    have i1 : ∀ {p q : Nat}, p ∈ nums a → q = p → q ∈ nums a := fun hp hq => by rw [hq]; exact hp
    have e40 : mI M4 a 40 = (w : Int) := by
      rw [(m4.fld w3 (fun q hq => i1 k115 hq) (fun z => z)).1, (m3.fld w2 (fun q hq => i1 k109 hq) (fun z => z)).1]
      exact xd.2.1.1
    have w4096 := xd.2.1.2
    rw [show mR M4 a 36 = a + 111 from w4.1.2.2.2.2.2.1.2.2.2.2.2.1, e40]
    refine ⟨m4.1, w4.1.1, (w4.nu k111).1, (s_MN_add (i32s (by omega) (by omega)) m4.1 (w4.nu k111) (by rw [(m4.lst k111 (by omega)).1, z111]; omega)).mono (fun M5 a5 => ?_)⟩
    have m5 := mv_add w4 k111 a5
    have w5 := m5.2.1
    rw [show mR M5 a 37 = a + 113 from w5.1.2.2.2.2.2.1.2.2.2.2.2.2.1]
    refine ⟨m5.1, w5.1.1, (w5.nu k113).1, (s_MN_add ⟨by decide, by decide⟩ m5.1 (w5.nu k113) (by rw [(m5.lst k113 (by omega)).1, (m4.lst k113 (by omega)).1, z113]; omega)).mono (fun M6 a6 => ?_)⟩
    have m6 := mv_add w5 k113 a6
    have w6 := m6.2.1
    have A8 : mK M6 (a + 108) = 30 ∧ mN M6 (a + 108) = 512 := w6.1.2.2.2.2.2.2.2.2.1.2.2.2
    have e108 : mI M6 (a + 108) = mI M (a + 108) := by
      rw [← t108, (m6.cellL w5 (fun q hq => i1 k113 hq) (offx (a := a) (o := 108) (by decide)) (fun z => z)).1, (m5.cellL w4 (fun q hq => i1 k111 hq) (offx (a := a) (o := 108) (by decide)) (fun z => z)).1, (m4.cellL w3 (fun q hq => i1 k115 hq) (offx (a := a) (o := 108) (by decide)) (fun z => z)).1, (m3.cellL w2 (fun q hq => i1 k109 hq) (offx (a := a) (o := 108) (by decide)) (fun z => z)).1]
    rw [show mR M6 a 34 = a + 108 from w6.1.2.2.2.2.2.1.2.2.2.1, Int.toNat_natCast, e108]
    refine ⟨m6.1, w6.1.1, A8.1, by rw [A8.2]; exact b512, by rw [A8.2]; exact b512, i32s (by omega) (by omega), fun M7 e7 => ?_⟩
    obtain ⟨⟨u1, u2, u3⟩, u4, u5, u6, u7, u8, u9, u10, u11⟩ := en_put (c := c) h hw hk hm a3 a4 a5 a6 e7
    refine s_en201 h0 ipl hc hnb hw hL (fun b' hb' => ⟨(hch b' hb').1, (hch b' hb').2.1, (hch b' hb').2.2.1, (hch b' hb').2.2.2, hdv b' hb'⟩) hm.1 hsum b 0 M7 (by omega) ⟨u6, u7, u8, u9, fun _ => ⟨⟨by rw [u1]; exact u2, by rw [u1]; exact u3⟩, n, w, Nat.le_refl _, u10, u11, by omega⟩⟩
  | succ t ih =>
    intro b hb
    have b8 : ((0 : Int) ≤ (b : Int) ∧ (b : Int) < ((8 : Nat) : Int)) := by omega
    have c1 := hch b (by omega)
    have nx := ih (b + 1) (by omega)
    refine k_MM_enabled_87 o2 ik ic ipl im (sb b (by omega)) (i32s (by omega) (by omega)) ⟨w2.1.1, ?_⟩
    rw [gg.2.2.1.1, show mR M2 g 22 = g + 25 from (w2.gp hg).2.2.1.2.2.2.2.2.2.2.1, Int.toNat_natCast, r25, (r4546 w2).1.1, (r4546 w2).1.2, Int.toNat_natCast, Int.toNat_natCast]
    refine ⟨(w2.gp hg).1, (w2.gp hg).2.2.2.2.2.2.2.2.1.1, by rw [(w2.gp hg).2.2.2.2.2.2.2.2.1.2]; exact b60, fun q => absurd q (by omega), fun _ => ⟨(r4546 w2).2.1.1, by rw [(r4546 w2).2.1.2]; exact b8, (r4546 w2).2.2.1, by rw [(r4546 w2).2.2.2]; exact b8, by omega, ?_⟩⟩
    rw [show Int.tdiv mul (mL M2 (a + 21190) b) = mul / mL M2 (a + 21190) b from Int.tdiv_eq_ediv_of_nonneg (by omega), show (b : Int) + 1 = ((b + 1 : Nat) : Int) by omega]
    exact nx
end ENB3
end
section
/-! The reference: enabled, and a state. -/
section STA
variable {G : mG} {d a g T R W C Z n L w k : Nat} {M M2 M3 : mM} {E : Nat → Nat} {tg : Int} {B : Nat → Nat}
theorem s_MM_enabled {c : Nat} (h : GG M a g T R W C Z E tg) (hn : En M a g R W) (xd : XD M a g n W L w L B) (hw : B L = w) (z16 : mI M a 16 = 0) (hk5 : k < 512) (hk : 0 ≤ mI M (a + 108) k ∧ mI M (a + 108) k ≤ 5000) (hc : c < C) : Cv G y_MM_enabled (d + 8) [vr a, vi k, vi c] M (fun M' => mOk M' ∧ enQ M a g T R W C Z E tg n L k B M') := by
  have o := h.1
  have wd := h.2.1
  have hg := h.2.2.1.2
  have hD := h.2.2.2.2.2.2.2.1
  have hBd := hD.1
  have cc := hD.2.2.2.2.1 c hc
  obtain ⟨nb, hnb⟩ : ∃ nb : Nat, mI M (g + 25) c = (nb : Int) := ⟨(mI M (g + 25) c).toNat, by have := cc.2.1; omega⟩
  have b60 : ((0 : Int) ≤ (c : Int) ∧ (c : Int) < ((60 : Nat) : Int)) := by omega
  have b512 : ((0 : Int) ≤ (k : Int) ∧ (k : Int) < ((512 : Nat) : Int)) := by omega
  have A6 : mK M (a + 106) = 30 ∧ mN M (a + 106) = 512 := wd.1.2.2.2.2.2.2.2.2.1.2.1
  have ipl : i32 (mI M (g + 23) c) := (o _ _).1
  have eb0 : eB M a g T R W C Z E tg n L w B M := ⟨xF.refl o wd, h, hn, xd, rfl, rfl⟩
  refine k_MM_enabled o (i32s (by omega) (by omega)) (i32s (by omega) (by omega)) ⟨wd.1.1, ?_⟩
  rw [h.2.2.1.1, show mR M g 19 = g + 22 from (wd.gp hg).2.2.1.2.2.2.2.1, show mR M g 20 = g + 23 from (wd.gp hg).2.2.1.2.2.2.2.2.1, show mR M a 32 = a + 106 from wd.1.2.2.2.2.2.1.2.1, Int.toNat_natCast, Int.toNat_natCast]
  refine ⟨(wd.gp hg).1, (wd.gp hg).2.2.2.2.2.1.1, by rw [(wd.gp hg).2.2.2.2.2.1.2]; exact b60, fun v hv => ⟨(wd.gp hg).2.2.2.2.2.2.1.1, by rw [(wd.gp hg).2.2.2.2.2.2.1.2]; exact b60, A6.1, by rw [A6.2]; exact b512, fun _ => by rw [A6.2]; exact b512, fun _ => ⟨by rw [A6.2]; exact b512, fun M2 e2 => ?_⟩, fun _ => (s_MM_stop ⟨by decide, by decide⟩ ipl o wd).mono (fun M3 h3 => ⟨h3.1.1, h3.1.1, en_stop eb0 (by decide) h3⟩)⟩⟩
  have iv : i32 v := by rw [hv]; split <;> exact ⟨by decide, by decide⟩
  obtain ⟨m2, f2, l2⟩ := mv_cell iv o wd (show a ≤ a + 106 by omega) (offx (a := a) (o := 106) (by decide)) e2
  have no : ∀ q : Nat, False → q ∈ nums a := fun _ z => z.elim
  have w2 := m2.2.1
  have aI := (m2.fld wd no (by omega)).1
  have F2 : xF M a M2 := xF.mk wd m2 (fun _ z => z.elim) (fun x z => Or.inr (Or.inl (by omega))) (fun i _ _ _ _ _ => by rw [aI])
  have gs2 := F2.gs wd hg
  have gg2 := h.gs m2.1 w2 (by rw [m2.rfl_a wd no]) gs2
  have en2 := hn.mv wd m2 no gs2 (fun x z => by omega)
  have xd2 := xd.mv wd m2 no (fun _ z => z.elim) (fun x z => by omega) gs2 (by rw [aI]) (by rw [aI])
  have c7 := (m2.cellL wd no (offx (a := a) (o := 107) (by decide)) (by omega)).1
  have c8 := (m2.cellL wd no (offx (a := a) (o := 108) (by decide)) (by omega)).1
  refine (s_MM_chances (d := d + 1) gg2 en2 hc ipl (by rw [(gs2.2.1 25 (by omega) (by omega)).1]; exact hnb)).mono (fun mul M3 t3 => ?_)
  obtain ⟨i3, o3, -, ⟨x3, gg3, en3⟩, v3⟩ := t3
  have w3 := gg3.2.1
  have gs3 := x3.gs w2 hg
  have un : ∀ x, xE a x → x = a ∨ (a + 97 ≤ x ∧ x ≤ a + 98) ∨ (a + 102 ≤ x ∧ x ≤ a + 104) ∨ (a + 21188 ≤ x ∧ x ≤ a + 21190) := fun x hx => hx
  have xd3 := xd2.mv w2 x3.1 in99 (fun q hq => by omega) (fun x hx => by have := un x hx; omega) gs3 (x3.2 29 (by decide) (by decide) (by decide)) (x3.2 40 (by decide) (by decide) (by decide))
  have tb := x3.tab w2
  have eb3 : eB M a g T R W C Z E tg n L w B M3 := ⟨F2.trans (x3.xf w2), gg3, en3, xd3, by rw [tb.2.1]; exact c7, by rw [tb.2.2]; exact c8⟩
  refine ⟨i3, o3, w3.1.1, fun z3 => ?_, fun z3 => ⟨o3, eb3.1, gg3, en3, eb3.2.2.2.2.1, fun k' _ => by rw [eb3.2.2.2.2.2], Or.inl z3⟩⟩
  rcases v3 with y | ⟨-, u1, u2, u3, u4⟩
  · exact absurd z3 y
  · exact s_en87 h eb3 z3 hw hk5 hk hc hnb ipl ⟨u2, u3⟩ u1 u4 nb 0 (by omega)
/-- a state's commands so far -/
def sI (M : mM) (a g T R W C Z : Nat) (E : Nat → Nat) (tg : Int) (n L k : Nat) (B : Nat → Nat) (M2 : mM) : Prop := xF M a M2 ∧ GG M2 a g T R W C Z E tg ∧ En M2 a g R W ∧ (mI M2 a 16 = 0 → (mI M2 (a + 107) k = (L : Int) ∧ (∀ k', k' ≠ k → mI M2 (a + 107) k' = mI M (a + 107) k' ∧ mI M2 (a + 108) k' = mI M (a + 108) k')) ∧ ∃ (n2 L2 w2 : Nat) (B2 : Nat → Nat), n ≤ n2 ∧ L ≤ L2 ∧ mI M2 (a + 108) k = ((L2 - L : Nat) : Int) ∧ (∀ i, i ≤ L → B2 i = B i) ∧ B2 L2 = w2 ∧ XD M2 a g n2 W L2 w2 L2 B2)
theorem s_st72 (hk5 : k < 512) : ∀ (t c : Nat) (M2 : mM), c + t = C → sI M a g T R W C Z E tg n L k B M2 → h_MM_state0_72 G (d + 8) a k c M2 (fun M' => mOk M' ∧ sI M a g T R W C Z E tg n L k B M') := by
  intro t
  induction t with
  | zero =>
    intro c M2 hc h
    have ec : c = C := by omega
    subst ec
    obtain ⟨x1, gg, en, hh⟩ := id h
    have w2 := gg.2.1
    have hg := gg.2.2.1.2
    have hBd := gg.2.2.2.2.2.2.2.1.1
    refine k_MM_state0_72 gg.1 (i32s (by omega) (by omega)) (i32s (by omega) (by omega)) ⟨w2.1.1, ?_⟩
    rw [gg.2.2.1.1, gg.2.2.2.2.2.1.2.2.1]
    exact ⟨(w2.gp hg).1, fun _ => ⟨gg.1, h⟩, fun q => absurd (Or.inl (Int.le_refl _)) q⟩
  | succ t ih =>
    intro c M2 hc h
    obtain ⟨x1, gg, en, hh⟩ := id h
    have w2 := gg.2.1
    have hg := gg.2.2.1.2
    have hD := gg.2.2.2.2.2.2.2.1
    have hBd := hD.1
    have cc := hD.2.2.2.2.1 c (by omega)
    have b60 : ((0 : Int) ≤ (c : Int) ∧ (c : Int) < ((60 : Nat) : Int)) := by omega
    refine k_MM_state0_72 gg.1 (i32s (by omega) (by omega)) (i32s (by omega) (by omega)) ⟨w2.1.1, ?_⟩
    rw [gg.2.2.1.1, gg.2.2.2.2.2.1.2.2.1, show mR M2 g 21 = g + 24 from (w2.gp hg).2.2.1.2.2.2.2.2.2.1, Int.toNat_natCast]
    refine ⟨(w2.gp hg).1, fun q => ⟨gg.1, h⟩, fun q => ⟨(w2.gp hg).2.2.2.2.2.2.2.1.1, by rw [(w2.gp hg).2.2.2.2.2.2.2.1.2]; exact b60, (s_MM_reach (d := d + 3) gg en cc.1).mono (fun M3 t3 => ?_)⟩⟩
    have z2 : mI M2 a 16 = 0 := Classical.byContradiction (fun z => q (Or.inr z))
    obtain ⟨⟨t1, t2⟩, n2, L2, w2', B2, y1, y2, y3, y4, y5, y6⟩ := hh z2
    obtain ⟨o3, xr3, gg3, en3, v3⟩ := t3
    have x3 := xr3.xe w2
    have w3 := gg3.2.1
    have gs3 := x3.gs w2 hg
    have tb := x3.tab w2
    have un : ∀ x, xE a x → x = a ∨ (a + 97 ≤ x ∧ x ≤ a + 98) ∨ (a + 102 ≤ x ∧ x ≤ a + 104) ∨ (a + 21188 ≤ x ∧ x ≤ a + 21190) := fun x hx => hx
    have xd3 := y6.mv w2 x3.1 in99 (fun q hq => by omega) (fun x hx => by have := un x hx; omega) gs3 (x3.2 29 (by decide) (by decide) (by decide)) (x3.2 40 (by decide) (by decide) (by decide))
    have s3 : sI M a g T R W C Z E tg n L k B M3 := ⟨x1.trans (x3.xf w2), gg3, en3, fun _ => ⟨by rw [tb.2.1, tb.2.2]; exact ⟨t1, t2⟩, n2, L2, w2', B2, y1, y2, by rw [tb.2.2]; exact y3, y4, y5, xd3⟩⟩
    have A7 : mK M3 (a + 97) = 33 ∧ mN M3 (a + 97) = 16400 := w3.1.2.2.2.2.2.2.2.1.1
    rw [show mR M3 a 21 = a + 97 from w3.1.2.2.2.2.1.2.2.2.2.2.2.1]
    rw [show (c : Int) + 1 = ((c + 1 : Nat) : Int) by omega]
    refine ⟨o3, w3.1.1, fun _ => ⟨A7.1, by rw [A7.2]; decide⟩, fun q3 => ?_, fun _ => ih (c + 1) M3 (by omega) s3⟩
    have hL2 := xd3.le
    refine (s_MM_enabled (d := d) (k := k) (c := c) gg3 en3 xd3 y5 q3.1 hk5 (by rw [tb.2.2, y3]; omega) (by omega)).mono (fun M4 t4 => ⟨t4.1, ih (c + 1) M4 (by omega) ?_⟩)
    obtain ⟨-, x4, gg4, en4, k7, k8, v4⟩ := t4
    refine ⟨s3.1.trans x4, gg4, en4, fun z4 => ?_⟩
    rcases v4 with y | ⟨-, u1, n4, w4, B4, u2, u3, u4, u5⟩
    · exact absurd z4 y
    · refine ⟨⟨by rw [k7, tb.2.1]; exact t1, fun k' hk' => ⟨by rw [k7, tb.2.1]; exact (t2 k' hk').1, by rw [k8 k' hk', tb.2.2]; exact (t2 k' hk').2⟩⟩, n4, L2 + 1, w4, B4, by omega, by omega, by rw [u1, tb.2.2, y3]; omega, fun i hi => by rw [u3 i (by omega)]; exact y4 i hi, u4, u5⟩
end STA
end
section
/-! The reference: a state is explored. -/
section STB
variable {G : mG} {d a g T R W C Z n L w k : Nat} {M : mM} {E : Nat → Nat} {tg : Int} {B : Nat → Nat}
theorem s_MM_state0 (h : GG M a g T R W C Z E tg) (xd : XD M a g n W L w L B) (hw : B L = w) (z16 : mI M a 16 = 0) (hk : k < n) : Cv G y_MM_state0 (d + 9) [vr a, vi k] M (fun M' => mOk M' ∧ sI M a g T R W C Z E tg n L k B M') := by
  have o := h.1
  have wd := h.2.1
  have hg := h.2.2.1.2
  have hn5 := xd.1.2.2
  have hL := xd.le
  have no : ∀ q : Nat, False → q ∈ nums a := fun _ z => z.elim
  have b512 : ((0 : Int) ≤ (k : Int) ∧ (k : Int) < ((512 : Nat) : Int)) := by omega
  have ik : i32 (k : Int) := i32s (by omega) (by omega)
  refine k_MM_state0 o ik ⟨wd.1.1, (s_MM_enter (d := d + 8) (k := k) h (by omega) (fun v hv => xd.2.2.1 k v hk hv)).mono (fun M2 t2 => ?_)⟩
  obtain ⟨o2, m2, en2⟩ := t2
  have w2 := m2.2.1
  have A6 : ∀ {Mx : mM}, Wd Mx a → (mK Mx (a + 106) = 30 ∧ mN Mx (a + 106) = 512) ∧ (mK Mx (a + 107) = 30 ∧ mN Mx (a + 107) = 512) ∧ (mK Mx (a + 108) = 30 ∧ mN Mx (a + 108) = 512) := fun w => ⟨w.1.2.2.2.2.2.2.2.2.1.2.1, w.1.2.2.2.2.2.2.2.2.1.2.2.1, w.1.2.2.2.2.2.2.2.2.1.2.2.2⟩
  have R6 : ∀ {Mx : mM}, Wd Mx a → mR Mx a 32 = a + 106 ∧ mR Mx a 33 = a + 107 ∧ mR Mx a 34 = a + 108 ∧ mR Mx a 35 = a + 109 := fun w => ⟨w.1.2.2.2.2.2.1.2.1, w.1.2.2.2.2.2.1.2.2.1, w.1.2.2.2.2.2.1.2.2.2.1, w.1.2.2.2.2.2.1.2.2.2.2.1⟩
  rw [(R6 w2).1, Int.toNat_natCast]
  refine ⟨o2, w2.1.1, (A6 w2).1.1, by rw [(A6 w2).1.2]; exact b512, fun M3 e3 => ?_⟩
  obtain ⟨m3, f3, l3⟩ := mv_cell (v := 0) ⟨by decide, by decide⟩ o2 w2 (show a ≤ a + 106 by omega) (offx (a := a) (o := 106) (by decide)) e3
  have w3 := m3.2.1
  have l109 : mI M3 (a + 109) 1 = (L : Int) := by
    have e1 := (m3.lst (k109 (a := a)) (fun z => z)).1
    have e2 := (m2.lst (k109 (a := a)) (fun z => z)).1
    exact e1.trans (e2.trans xd.2.2.2.2.1.1)
  rw [(R6 w3).2.2.2, (R6 w3).2.1, l109]
  refine ⟨(w3.nu k109).1, (A6 w3).2.1.1, by rw [(A6 w3).2.1.2]; exact b512, fun M4 e4 => ?_⟩
  obtain ⟨m4, f4, l4⟩ := mv_cell (v := (L : Int)) (i32s (by omega) (by omega)) m3.1 w3 (show a ≤ a + 107 by omega) (offx (a := a) (o := 107) (by decide)) e4
  have w4 := m4.2.1
  rw [(R6 w4).2.2.1]
  refine ⟨(A6 w4).2.2.1, by rw [(A6 w4).2.2.2]; exact b512, fun M5 e5 => ?_⟩
  obtain ⟨m5, f5, l5⟩ := mv_cell (v := 0) ⟨by decide, by decide⟩ m4.1 w4 (show a ≤ a + 108 by omega) (offx (a := a) (o := 108) (by decide)) e5
  have w5 := m5.2.1
  have nz : ∀ {Mx : mM} (q : Nat), False → q < mZ Mx := fun _ z => z.elim
  have m25 : Mv (fun _ => False) (fun x => a + 106 ≤ x ∧ x ≤ a + 108) M2 a M5 := ((m3.mono (fun _ z => z) (fun x z => by omega) nz).trans (m4.mono (fun _ z => z) (fun x z => by omega) nz)).trans (m5.mono (fun _ z => z) (fun x z => by omega) nz)
  have mm : Mv (fun _ => False) (fun x => (a + 101 ≤ x ∧ x ≤ a + 102) ∨ (a + 106 ≤ x ∧ x ≤ a + 108)) M a M5 := (m2.mono (fun _ z => z) (fun x z => Or.inl (by omega)) nz).trans (m25.mono (fun _ z => z) (fun x z => Or.inr z) nz)
  have aI := (mm.fld wd no (by omega)).1
  have F5 : xF M a M5 := xF.mk wd mm (fun _ z => z.elim) (fun x z => Or.inr (Or.inl (by omega))) (fun i _ _ _ _ _ => by rw [aI])
  have gs5 := F5.gs wd hg
  have gg5 := h.gs m5.1 w5 (by rw [mm.rfl_a wd no]) gs5
  have gs25 := gs_st w2 hg m25 no (fun _ z => z.elim) (fun x z => by omega)
  have en5 := en2.mv w2 m25 no gs25 (fun x z => by omega)
  have xd5 := xd.mv wd mm no (fun _ z => z.elim) (fun x z => by omega) gs5 (by rw [aI]) (by rw [aI])
  have c7 : mI M5 (a + 107) k = (L : Int) := by rw [f5, if_neg (fun z => by omega), f4, if_pos ⟨rfl, rfl⟩]
  have c8 : mI M5 (a + 108) k = 0 := by rw [f5, if_pos ⟨rfl, rfl⟩]
  have q7 := (m2.cellL wd no (offx (a := a) (o := 107) (by decide)) (by omega)).1
  have q8 := (m2.cellL wd no (offx (a := a) (o := 108) (by decide)) (by omega)).1
  have d7 : ∀ k', k' ≠ k → mI M5 (a + 107) k' = mI M (a + 107) k' := fun k' hk' => by rw [f5, if_neg (fun z => by omega), f4, if_neg (fun z => hk' z.2), f3, if_neg (fun z => by omega), q7]
  have d8 : ∀ k', k' ≠ k → mI M5 (a + 108) k' = mI M (a + 108) k' := fun k' hk' => by rw [f5, if_neg (fun z => hk' z.2), f4, if_neg (fun z => by omega), f3, if_neg (fun z => by omega), q8]
  have s5 : sI M a g T R W C Z E tg n L k B M5 := ⟨F5, gg5, en5, fun _ => ⟨⟨c7, fun k' hk' => ⟨d7 k' hk', d8 k' hk'⟩⟩, n, L, w, B, Nat.le_refl _, Nat.le_refl _, by rw [c8, Nat.sub_self]; rfl, fun _ _ => rfl, hw, xd5⟩⟩
  have rt : Rt M5 g R W T E tg 1 := by
    have := gg5.2.2.2.2.2.2.2.1.2.2.2.2.2.2
    have := gg5.2.2.2.2.2.2.2.2
    rcases gg5.2.2.2.2.2.2.2.1.2.2.2.2.2.2 with y | y
    · omega
    · exact y
  rw [gg5.2.2.1.1, gg5.2.2.2.2.2.1.2.2.2]
  refine ⟨(w5.gp hg).1, (s_MM_reach (d := d + 3) gg5 en5 rt).mono (fun M6 t6 => ?_)⟩
  obtain ⟨o6, xr6, gg6, en6, v6⟩ := t6
  have x6 := xr6.xe w5
  have w6 := gg6.2.1
  have gs6 := x6.gs w5 hg
  have tb := x6.tab w5
  have un : ∀ x, xE a x → x = a ∨ (a + 97 ≤ x ∧ x ≤ a + 98) ∨ (a + 102 ≤ x ∧ x ≤ a + 104) ∨ (a + 21188 ≤ x ∧ x ≤ a + 21190) := fun x hx => hx
  have xd6 := xd5.mv w5 x6.1 in99 (fun q hq => by omega) (fun x hx => by have := un x hx; omega) gs6 (x6.2 29 (by decide) (by decide) (by decide)) (x6.2 40 (by decide) (by decide) (by decide))
  have s6 : sI M a g T R W C Z E tg n L k B M6 := ⟨F5.trans (x6.xf w5), gg6, en6, fun _ => ⟨by rw [tb.2.1, tb.2.2]; exact ⟨c7, fun k' hk' => ⟨d7 k' hk', d8 k' hk'⟩⟩, n, L, w, B, Nat.le_refl _, Nat.le_refl _, by rw [tb.2.2, c8, Nat.sub_self]; rfl, fun _ _ => rfl, hw, xd6⟩⟩
  have A7 : mK M6 (a + 97) = 33 ∧ mN M6 (a + 97) = 16400 := w6.1.2.2.2.2.2.2.2.1.1
  rw [show mR M6 a 21 = a + 97 from w6.1.2.2.2.2.1.2.2.2.2.2.2.1, (R6 w6).1]
  refine ⟨o6, w6.1.1, fun z6 => ⟨A7.1, by rw [A7.2]; decide, fun _ => ⟨(A6 w6).1.1, by rw [(A6 w6).1.2]; exact b512, fun M7 e7 => ?_⟩, fun _ => s_st72 (by omega) C 0 M6 (by omega) s6⟩, fun z6 => ⟨o6, s6⟩⟩
  obtain ⟨m7, f7, l7⟩ := mv_cell (v := 3) ⟨by decide, by decide⟩ o6 w6 (show a ≤ a + 106 by omega) (offx (a := a) (o := 106) (by decide)) e7
  have aI7 := (m7.fld w6 no (by omega)).1
  have F7 : xF M6 a M7 := xF.mk w6 m7 (fun _ z => z.elim) (fun x z => Or.inr (Or.inl (by omega))) (fun i _ _ _ _ _ => by rw [aI7])
  have gs7 := F7.gs w6 hg
  have xd7 := xd6.mv w6 m7 no (fun _ z => z.elim) (fun x z => by omega) gs7 (by rw [aI7]) (by rw [aI7])
  have e7' : ∀ y, y ≠ a + 106 → mI M7 y = mI M6 y := fun y hy => by
    funext j
    rw [f7, if_neg (fun z => hy z.1)]
  refine ⟨m7.1, s6.1.trans F7, gg6.gs m7.1 m7.2.1 (by rw [m7.rfl_a w6 no]) gs7, en6.mv w6 m7 no gs7 (fun x z => by omega), fun _ => ⟨by rw [e7' (a + 107) (by omega), e7' (a + 108) (by omega), tb.2.1, tb.2.2]; exact ⟨c7, fun k' hk' => ⟨d7 k' hk', d8 k' hk'⟩⟩, n, L, w, B, Nat.le_refl _, Nat.le_refl _, by rw [e7' (a + 108) (by omega), tb.2.2, c8, Nat.sub_self]; rfl, fun _ _ => rfl, hw, xd7⟩⟩
end STB
end
section
/-! The reference: the solver is told. -/
section TOL
variable {G : mG} {d s i c b : Nat} {M M' : mM} {F B : Nat → Nat} {mu to up dn : Nat → Int}
abbrev tlS (s : Nat) : Nat → Prop := fun y => y = s ∨ (s + 22 ≤ y ∧ y ≤ s + 28) ∨ y = s + 32
/-- the solver's room, with no values -/
def Rs (M : mM) (s : Nat) : Prop := Vk M s ∧ Wk M s ∧ Ct M s ∧ (∀ e, eL e → Rm M s e) ∧ ∀ w, w < 3 → mI M (s + 30) w = 0
theorem Rs.fi (h : Rs M s) (f : FI (tlS s) M M') : Rs M' s := by
  obtain ⟨h1, h2, h3, h4, h5⟩ := h
  have un : ∀ y, tlS s y → y = s ∨ (s + 22 ≤ y ∧ y ≤ s + 28) ∨ y = s + 32 := fun y hy => hy
  refine ⟨h1.fi f, h2.far f (fun y q => by have := un y q; omega), h3.out f (fun y q => by have := un y q; omega), fun e he => (h4 e he).out f (fun y q => by have := un y q; omega), fun w hw => ?_⟩
  rw [f.2.2.2.2.2.2 (s + 30) (fun q => by have := un _ q; omega)]
  exact h5 w hw
/-- i states, c commands and b branches have been told -/
def TL (M : mM) (s : Nat) (F B : Nat → Nat) (mu to up dn : Nat → Int) (i c b : Nat) : Prop := Rs M s ∧ (mI M s 1 = (i : Int) ∧ mI M s 2 = (c : Int) ∧ mI M s 3 = (b : Int)) ∧ ((∀ j, j < i → mI M (s + 23) j = (F j : Int)) ∧ mI M (s + 23) i = (c : Int)) ∧ ((∀ j, j < c → mI M (s + 25) j = (B j : Int)) ∧ mI M (s + 25) c = (b : Int)) ∧ (∀ j, j < c → mI M (s + 24) j = mu j) ∧ (∀ j, j < b → mI M (s + 26) j = to j ∧ mI M (s + 27) j = up j ∧ mI M (s + 28) j = dn j) ∧ ∀ j, j < i → mI M (s + 32) j = 0
theorem s_tl_state {q : Int} (hq : i32 q) (hO : mOk M) (h : TL M s F B mu to up dn i c b) (hi : i < 512) (hc : c = F i) : Cv G y_MS_addState d [vr s, vi q] M (fun M' => mOk M' ∧ FI (tlS s) M M' ∧ TL M' s F B mu to up dn (i + 1) c b) := by
  obtain ⟨r, ⟨n1, n2, n3⟩, ⟨f1, f2⟩, ⟨b1, b2⟩, m1, w1, t1⟩ := h
  refine (s_MS_addState hq hO r.1 n1 hi).mono (fun M' t => ?_)
  obtain ⟨o, f, e1, e2, e3, e4⟩ := t
  have f' : FI (tlS s) M M' := f.mono (fun y z => by show y = s ∨ (s + 22 ≤ y ∧ y ≤ s + 28) ∨ y = s + 32; omega)
  have keep : ∀ x, (x = s + 24 ∨ x = s + 25 ∨ x = s + 26 ∨ x = s + 27 ∨ x = s + 28) → mI M' x = mI M x := fun x hx => f.2.2.2.2.2.2 x (by omega)
  refine ⟨o, f', r.fi f', ⟨by rw [e1, if_pos rfl]; omega, by rw [e1, if_neg (by omega)]; exact n2, by rw [e1, if_neg (by omega)]; exact n3⟩, ⟨fun j hj => ?_, by rw [e4, if_pos rfl]; exact n2⟩, by rw [keep (s + 25) (by omega)]; exact ⟨b1, b2⟩, by rw [keep (s + 24) (by omega)]; exact m1, by rw [keep (s + 26) (by omega), keep (s + 27) (by omega), keep (s + 28) (by omega)]; exact w1, fun j hj => ?_⟩
  · rw [e4, if_neg (by omega)]
    by_cases z : j = i
    · rw [z, f2, hc]
    · exact f1 j (by omega)
  · rw [e3]
    by_cases z : j = i
    · rw [if_pos z]
    · rw [if_neg z]; exact t1 j (by omega)
theorem s_tl_command (hO : mOk M) (h : TL M s F B mu to up dn i c b) (hi : i ≤ 512) (hc : c < 4200) (hb : b = B c) (hm : i32 (mu c)) : Cv G y_MS_addCommand d [vr s, vi (mu c)] M (fun M' => mOk M' ∧ FI (tlS s) M M' ∧ TL M' s F B mu to up dn i (c + 1) b) := by
  obtain ⟨r, ⟨n1, n2, n3⟩, ⟨f1, f2⟩, ⟨b1, b2⟩, m1, w1, t1⟩ := h
  refine (s_MS_addCommand hm hO r.1 n1 hi n2 hc).mono (fun M' t => ?_)
  obtain ⟨o, f, e1, e2, e3, e4⟩ := t
  have f' : FI (tlS s) M M' := f.mono (fun y z => by show y = s ∨ (s + 22 ≤ y ∧ y ≤ s + 28) ∨ y = s + 32; omega)
  have keep : ∀ x, (x = s + 26 ∨ x = s + 27 ∨ x = s + 28 ∨ x = s + 32) → mI M' x = mI M x := fun x hx => f.2.2.2.2.2.2 x (by omega)
  refine ⟨o, f', r.fi f', ⟨by rw [e1, if_neg (by omega)]; exact n1, by rw [e1, if_pos rfl]; omega, by rw [e1, if_neg (by omega)]; exact n3⟩, ⟨fun j hj => by rw [e4, if_neg (by omega)]; exact f1 j hj, by rw [e4, if_pos rfl]; omega⟩, ⟨fun j hj => ?_, by rw [e3, if_pos rfl]; exact n3⟩, fun j hj => ?_, by rw [keep (s + 26) (by omega), keep (s + 27) (by omega), keep (s + 28) (by omega)]; exact w1, by rw [keep (s + 32) (by omega)]; exact t1⟩
  · rw [e3, if_neg (by omega)]
    by_cases z : j = c
    · rw [z, b2, hb]
    · exact b1 j (by omega)
  · rw [e2]
    by_cases z : j = c
    · rw [if_pos z, z]
    · rw [if_neg z]; exact m1 j (by omega)
theorem s_tl_branch (hO : mOk M) (h : TL M s F B mu to up dn i c b) (hc : c ≤ 4200) (hb : b < 4096) (h1 : i32 (to b)) (h2 : i32 (up b)) (h3 : i32 (dn b)) : Cv G y_MS_addBranch d [vr s, vi (to b), vi (up b), vi (dn b)] M (fun M' => mOk M' ∧ FI (tlS s) M M' ∧ TL M' s F B mu to up dn i c (b + 1)) := by
  obtain ⟨r, ⟨n1, n2, n3⟩, ⟨f1, f2⟩, ⟨b1, b2⟩, m1, w1, t1⟩ := h
  refine (s_MS_addBranch h1 h2 h3 hO r.1 n2 hc n3 hb).mono (fun M' t => ?_)
  obtain ⟨o, f, e1, e2, e3, e4, e5⟩ := t
  have f' : FI (tlS s) M M' := f.mono (fun y z => by show y = s ∨ (s + 22 ≤ y ∧ y ≤ s + 28) ∨ y = s + 32; omega)
  have keep : ∀ x, (x = s + 23 ∨ x = s + 24 ∨ x = s + 32) → mI M' x = mI M x := fun x hx => f.2.2.2.2.2.2 x (by omega)
  refine ⟨o, f', r.fi f', ⟨by rw [e1, if_neg (by omega)]; exact n1, by rw [e1, if_neg (by omega)]; exact n2, by rw [e1, if_pos rfl]; omega⟩, by rw [keep (s + 23) (by omega)]; exact ⟨f1, f2⟩, ⟨fun j hj => by rw [e5, if_neg (by omega)]; exact b1 j hj, by rw [e5, if_pos rfl]; omega⟩, by rw [keep (s + 24) (by omega)]; exact m1, fun j hj => ?_, by rw [keep (s + 32) (by omega)]; exact t1⟩
  rw [e2, e3, e4]
  by_cases z : j = b
  · rw [if_pos z, if_pos z, if_pos z, z]
    exact ⟨rfl, rfl, rfl⟩
  · rw [if_neg z, if_neg z, if_neg z]
    exact w1 j (by omega)
/-- all has been told: the solver is sound -/
theorem TL.sv {n L w : Nat} (h : TL M s F B mu to up dn n L w) (hn : n ≤ 512) (hL : L ≤ 4200) (hw : w ≤ 4096) (hF : F 0 = 0 ∧ F n = L ∧ ∀ k, k < n → F k ≤ F (k + 1)) (hB : B 0 = 0 ∧ B L = w ∧ ∀ k, k < L → B k < B (k + 1) ∧ B (k + 1) ≤ B k + 8) (hto : ∀ j, j < w → 0 ≤ to j ∧ to j < n) (hmu : ∀ k, k < L → 1 ≤ mu k ∧ mu k < 1000000000) (hud : ∀ j, j < w → 0 < up j ∧ 0 < dn j) (hdv : ∀ k, k < L → ∀ j, B k ≤ j → j < B (k + 1) → dn j ∣ mu k) (hsm : ∀ k, k < L → sm (fun t => up (B k + t) * (mu k / dn (B k + t))) (B (k + 1) - B k) = mu k) : Sv M s n ∧ ∀ k, k < n → mny M s k = ((F (k + 1) - F k : Nat) : Int) := by
  obtain ⟨⟨r1, r2, r3, r4, r5⟩, ⟨n1, n2, n3⟩, ⟨f1, f2⟩, ⟨b1, b2⟩, m1, w1, t1⟩ := h
  have mono : ∀ (H : Nat → Nat) (N : Nat), (∀ k, k < N → H k ≤ H (k + 1)) → ∀ i j, i ≤ j → j ≤ N → H i ≤ H j := fun H N hH i j hij hj => by
    induction j with
    | zero => rw [show i = 0 by omega]; exact Nat.le_refl _
    | succ j ih =>
      by_cases z : i = j + 1
      · rw [z]; exact Nat.le_refl _
      · have := ih (by omega) (by omega)
        have := hH j (by omega)
        omega
  have fF := mono F n hF.2.2
  have fB := mono B L (fun k hk => Nat.le_of_lt (hB.2.2 k hk).1)
  have eF : ∀ j, j ≤ n → mI M (s + 23) j = (F j : Int) := fun j hj => by
    by_cases z : j = n
    · rw [z, f2, hF.2.1]
    · exact f1 j (by omega)
  have eB : ∀ j, j ≤ L → mI M (s + 25) j = (B j : Int) := fun j hj => by
    by_cases z : j = L
    · rw [z, b2, hB.2.1]
    · exact b1 j (by omega)
  have my : ∀ k, k < n → mny M s k = ((F (k + 1) - F k : Nat) : Int) := fun k hk => by
    unfold mny
    rw [eF (k + 1) (by omega), eF k (by omega)]
    have := hF.2.2 k hk
    omega
  refine ⟨⟨r1, ⟨by omega, by omega, by omega, by omega, by rw [eF 0 (by omega), hF.1]; rfl, by rw [eB 0 (by omega), hB.1]; rfl, fun i j hij hj => ?_, by rw [n1, Int.toNat_natCast, eF n (Nat.le_refl _), hF.2.1, n2], fun i j hij hj => ?_, by rw [n2, Int.toNat_natCast, eB L (Nat.le_refl _), hB.2.1, n3], fun j hj => ?_⟩, fun k hk => ?_, n1, fun k hk => ?_, r2, r3, r4, fun v hv => ⟨Or.inl (r5 v hv), fun q => by rw [r5 v hv] at q; exact absurd q (by decide)⟩, fun q => by rw [r5 0 (by omega)] at q; exact absurd q (by decide)⟩, my⟩
  · rw [eF i (by omega), eF j (by omega)]
    have := fF i j hij (by omega)
    omega
  · rw [eB i (by omega), eB j (by omega)]
    have := fB i j hij (by omega)
    omega
  · rw [(w1 j (by omega)).1, n1]
    exact hto j (by omega)
  · have kL : k < L := by omega
    have bk := hB.2.2 k kL
    have bw := fB (k + 1) L (by omega) (Nat.le_refl _)
    have e1 : nb M s k = B (k + 1) - B k := by unfold nb; rw [eB (k + 1) (by omega), eB k (by omega)]; omega
    have e2 : bg M s k = B k := by unfold bg; rw [eB k (by omega)]; omega
    rw [e1, e2, m1 k kL]
    refine ⟨⟨(hmu k kL).1, (hmu k kL).2, by omega⟩, fun t ht => ?_, ?_⟩
    · have := w1 (B k + t) (by omega)
      rw [this.2.1, this.2.2]
      exact ⟨(hud _ (by omega)).1, (hud _ (by omega)).2, hdv k kL _ (by omega) (by omega)⟩
    · refine Eq.trans (sm_congr _ (fun t ht => ?_)) (hsm k kL)
      have := w1 (B k + t) (by omega)
      show mI M (s + 27) (B k + t) * (mu k / mI M (s + 28) (B k + t)) = up (B k + t) * (mu k / dn (B k + t))
      rw [this.2.1, this.2.2]
  · have kn : k < n := by omega
    rw [t1 k kn]
    exact ⟨Int.le_refl _, fun q => q⟩
end TOL
end
