/-! The reference: way, from its beginning. -/
section WAY3
variable {G : mG} {d a g T R W C Z n L w w0 : Nat} {M M2 : mM} {E : Nat → Nat} {tg mul Sm A D : Int} {B : Nat → Nat}
theorem wyF.gs (h : wyF M a M2) (wd : Wd M a) (hg : g = a + 13 ∨ g = a + 49) : Gs M M2 g :=
  gs_st wd hg h.1 (fun q hq => wyP_in hq) (fun q hq z => by
    have z' : q = g + 1 ∨ q = g + 3 ∨ q = g + 5 ∨ q = g + 7 ∨ q = g + 9 ∨ q = g + 11 ∨ q = g + 30 ∨ q = g + 32 ∨ q = g + 34 := z
    have hq' : q = a + 99 ∨ q = a + 113 := hq
    omega) (fun x hx => by have := wyS_un hx; omega)
theorem wyQ.up {n' : Nat} {M' : mM} (h : wyQ M a g T R W C Z E tg n' L w w0 mul Sm B M') (hn : n ≤ n') : wyQ M a g T R W C Z E tg n L w w0 mul Sm B M' := by
  obtain ⟨h1, h2, h3, h4⟩ := h
  refine ⟨h1, h2, h3, h4.imp (fun z => z) (fun z => ?_)⟩
  obtain ⟨z1, n'', w'', z2, z3⟩ := z
  exact ⟨z1, n'', w'', by omega, z3⟩
/-- a state has been found or made -/
theorem wI.so {b n' : Nat} {x : Int} {M3 : mM} (h : wI M a g T R W C Z E tg n L w w0 mul Sm A D B b M2) (h1 : n' = n ∨ n' = n + 1) (h2 : n' ≤ 512) (m : Mv (fun _ => False) (fun y => y = a ∨ y = a + 105) M2 a M3) (h3 : mI M3 a 29 = (n' : Int)) (h4 : ∀ i, i ≠ 29 → mI M3 a i = mI M2 a i) (h5 : Vx M3 a g n' W) : wI M a g T R W C Z E tg n' L w w0 mul Sm A D B b M3 := by
  obtain ⟨x1, gg, en, xd, op, cA, cD⟩ := h
  have w2 := gg.2.1
  have hg := gg.2.2.1.2
  have no : ∀ q : Nat, False → q ∈ nums a := fun _ z => z.elim
  have gs := gs_st w2 hg m no (fun _ z => z.elim) (fun x z => by omega)
  obtain ⟨d1, d2, d3, d4, d5, d6, d7⟩ := xd
  have s : ∀ {q}, q ∈ nums a → sl M2 M3 q := fun hq => (m.lst hq (fun z => z)).sl
  have c : ∀ o, frO o → o ≠ 0 → o ≠ 105 → mI M3 (a + o) = mI M2 (a + o) ∧ mL M3 (a + o) = mL M2 (a + o) := fun o fo o0 o1 => m.cellL w2 no (offx fo) (by omega)
  have c85 := c 21185 (by decide) (by decide) (by decide)
  have c86 := c 21186 (by decide) (by decide) (by decide)
  have c87 := c 21187 (by decide) (by decide) (by decide)
  have c89 := c 21189 (by decide) (by decide) (by decide)
  have c90 := c 21190 (by decide) (by decide) (by decide)
  refine ⟨x1.trans (wyF.mk w2 m (fun _ z => z.elim) (fun x z => ?_) (fun i _ _ _ i4 _ => h4 i i4)), gg.gs m.1 m.2.1 (by rw [m.rfl_a w2 no]) gs, en.mv w2 m no gs (fun x z => by omega), ⟨⟨h3, by omega, h2⟩, by rw [h4 40 (by decide)]; exact d2, h5, fun j hj => ?_, by rw [(s k109).1, (s k111).1, (s k113).1, (s k115).1]; exact d5, d6, fun i hi => (d7 i hi).cg ((s k111).2 i) ((s k113).2 i) ((s k115).2 i) (fun j _ _ => by rw [c86.2, c87.2]; exact ⟨rfl, rfl⟩)⟩, op.mv w2 m no (fun _ z => z.elim) (fun x z => by omega), by rw [c89.2]; exact cA, by rw [c90.2]; exact cD⟩
  · rcases z with z | z
    · exact Or.inl (Or.inl z)
    · exact Or.inr (Or.inl z)
  · rw [c85.1, c86.2, c87.2]
    have := d4 j hj
    exact ⟨by omega, this.2⟩
theorem s_way59 {b c fs mn : Nat} {pl : Int} (h0 : GG M a g T R W C Z E tg) (ipl : i32 pl) (hb : b < 8) (hc : c < C) (h28 : mI M (g + 28) (8 * c + b) = (fs : Int)) (h29 : mI M (g + 29) (8 * c + b) = (mn : Int)) (hfm : fs + mn ≤ Z) (hw0 : B L = w0) (hA : 0 < A ∧ A < 1000000000) (hD : 0 < D ∧ D < 1000000000) (hdm : D ∣ mul) (hle : Sm + A * (mul / D) ≤ mul) (hL : L ≤ 4096) : ∀ (t i : Nat) (M2 : mM), fs ≤ i → i + t = fs + mn → wI M a g T R W C Z E tg n L w w0 mul Sm A D B b M2 → (mI M2 a 16 = 0 → Nxv M2 a g W) → h_MM_way_59 G (d + 6) a b pl (8 * c + b : Nat) fs i M2 (fun M' => mOk M' ∧ wyQ M a g T R W C Z E tg n L w w0 mul (Sm + A * (mul / D)) B M') := by
  have wd0 := h0.2.1
  have hg := h0.2.2.1.2
  have hBd := h0.2.2.2.2.2.2.2.1.1
  have hZ := h0.2.2.2.2.1.2
  have ib : i32 (b : Int) := i32s (by omega) (by omega)
  have ix : i32 ((8 * c + b : Nat) : Int) := i32s (by omega) (by omega)
  have ifs : i32 (fs : Int) := i32s (by omega) (by omega)
  have b480 : ((0 : Int) ≤ ((8 * c + b : Nat) : Int) ∧ ((8 * c + b : Nat) : Int) < ((480 : Nat) : Int)) := by omega
  intro t
  induction t with
  | zero =>
    intro i M2 i0 hi h hnx
    have ei : i = fs + mn := by omega
    subst ei
    obtain ⟨x1, gg, en, xd, op, cA, cD⟩ := id h
    have o2 := gg.1
    have w2 := gg.2.1
    have gs := x1.gs wd0 hg
    have r29 : mI M2 (g + 29) (8 * c + b) = (mn : Int) := by rw [(gs.2.1 29 (by omega) (by omega)).1]; exact h29
    refine k_MM_way_59 o2 ib ipl ix ifs (i32s (by omega) (by omega)) ⟨w2.1.1, ?_⟩
    rw [gg.2.2.1.1, show mR M2 g 26 = g + 29 from (w2.gp hg).2.2.1.2.2.2.2.2.2.2.2.2.2.2.1, Int.toNat_natCast, r29]
    refine ⟨(w2.gp hg).1, (w2.gp hg).2.2.2.2.2.2.2.2.2.2.2.2.1, by rw [(w2.gp hg).2.2.2.2.2.2.2.2.2.2.2.2.2]; exact b480, i32s (by omega) (by omega), fun _ => ⟨fun z16 => ?_, fun z16 => ⟨o2, h.x z16⟩⟩, fun q => absurd (Or.inl (by omega)) q⟩
    refine (s_MM_stateOf (d := d + 6) gg xd.1.1 xd.1.2.2 xd.2.2.1 (hnx z16)).mono (fun x M3 t3 => ?_)
    obtain ⟨ixx, o3, hs⟩ := t3
    refine ⟨ixx, o3, ?_⟩
    rcases hs with ⟨y1, y2⟩ | ⟨n', y1, y2, y3, y4, m3, y5, y6, y7⟩
    · subst y2
      refine ⟨fun q => by omega, fun _ => ⟨w2.1.1, ?_⟩⟩
      rw [gg.2.2.1.1, show mR M3 g 24 = g + 27 from (w2.gp hg).2.2.1.2.2.2.2.2.2.2.2.2.1]
      exact ⟨(w2.gp hg).1, (w2.gp hg).2.2.2.2.2.2.2.2.2.2.1.1, by rw [(w2.gp hg).2.2.2.2.2.2.2.2.2.2.1.2]; exact b480, (s_MM_stop ⟨by decide, by decide⟩ (o2 _ _).1 o2 w2).mono (fun M4 h4 => ⟨h4.1.1, h4.1.1, h.stp (by decide) h4⟩)⟩
    · have h3 := h.so (x := x) y1 y2 m3 y5 y6 y7
      have gg3 := h3.2.1
      have w3 := gg3.2.1
      have op3 := h3.2.2.2.2.1
      have l111 : mI M3 (a + 111) 1 = (L + 1 : Nat) := h3.2.2.2.1.2.2.2.2.1.2.1
      refine ⟨fun _ => ⟨w3.1.1, ?_⟩, fun q => absurd y3 q⟩
      rw [show mR M3 a 36 = a + 111 from w3.1.2.2.2.2.2.1.2.2.2.2.2.1, l111, show ((L + 1 : Nat) : Int) - 1 = (L : Int) by omega]
      refine ⟨(w3.nu k111).1, (s_MN_at o3 (w3.nu k111) (by show (L : Int) < mI M3 (a + 111) 1; rw [l111]; omega)).mono (fun u M4 e4 => ?_)⟩
      obtain ⟨e4, hu⟩ := e4
      subst e4
      have hu' : u = (w0 : Int) := hu.trans op3.2.1.1
      subst hu'
      refine ⟨i32s (by have := h3.2.2.2.1.2.1.2; have := op3.1; omega) (by have := h3.2.2.2.1.2.1.2; have := op3.1; omega), o3, ?_⟩
      have key := s_way187 (G := G) (d := d) ipl hb hw0 hA hD hdm hle ⟨y3, y4⟩ h3 (by rw [y6 16 (by decide)]; exact z16) hL (w - w0) w0 (Nat.le_refl _) (by have := op3.1; omega)
      have hq : ∀ M', (mOk M' ∧ wyQ M a g T R W C Z E tg n' L w w0 mul (Sm + A * (mul / D)) B M') → mOk M' ∧ wyQ M a g T R W C Z E tg n L w w0 mul (Sm + A * (mul / D)) B M' := fun M' z => ⟨z.1, z.2.up (by omega)⟩
      exact mWm.mono key (fun r M' z => ⟨z.1, hq M' z.2⟩)
  | succ t ih =>
    intro i M2 i0 hi h hnx
    obtain ⟨x1, gg, en, xd, op, cA, cD⟩ := id h
    have o2 := gg.1
    have w2 := gg.2.1
    have gs := x1.gs wd0 hg
    have r29 : mI M2 (g + 29) (8 * c + b) = (mn : Int) := by rw [(gs.2.1 29 (by omega) (by omega)).1]; exact h29
    have iZ : i < Z := by omega
    obtain ⟨z30, z32, z34⟩ := gg.2.2.2.2.2.2.1
    have hD2 := gg.2.2.2.2.2.2.2.1
    obtain ⟨s1, s2, s3⟩ := hD2.2.2.2.2.2.1 i iZ
    refine k_MM_way_59 o2 ib ipl ix ifs (i32s (by omega) (by omega)) ⟨w2.1.1, ?_⟩
    rw [gg.2.2.1.1, show mR M2 g 26 = g + 29 from (w2.gp hg).2.2.1.2.2.2.2.2.2.2.2.2.2.2.1, show mR M2 g 27 = g + 30 from (w2.gp hg).2.2.1.2.2.2.2.2.2.2.2.2.2.2.2.1, Int.toNat_natCast, r29]
    refine ⟨(w2.gp hg).1, (w2.gp hg).2.2.2.2.2.2.2.2.2.2.2.2.1, by rw [(w2.gp hg).2.2.2.2.2.2.2.2.2.2.2.2.2]; exact b480, i32s (by omega) (by omega), fun q => ⟨fun z16 => absurd z16 (by
      rcases q with q | q
      · omega
      · exact q), fun z16 => ⟨o2, h.x z16⟩⟩, fun q => ⟨(w2.nu (n30 hg)).1, ?_⟩⟩
    have z16 : mI M2 a 16 = 0 := Classical.byContradiction (fun z => q (Or.inr z))
    have rd : ∀ {p : Nat} {Q : Int → mM → Prop}, p ∈ nums a → (i : Int) < ln M2 p → (∀ z, z = nt M2 p i → i32 z → Q z M2) → Ci G y_MN_at (d + 6) [vr p, vi i] M2 Q := fun hp hk hQ => by
      refine (s_MN_at o2 (w2.nu hp) hk).mono (fun z M1 e1 => ?_)
      obtain ⟨e1, hz⟩ := e1
      subst e1
      exact hQ z hz (by rw [hz]; exact (o2 _ _).1)
    refine rd (n30 hg) (by rw [z30]; omega) (fun v hv iv => ⟨iv, o2, w2.1.1, ?_⟩)
    rw [gg.2.2.1.1, show mR M2 g 29 = g + 34 from (w2.gp hg).2.2.1.2.2.2.2.2.2.2.2.2.2.2.2.2.2]
    refine ⟨(w2.gp hg).1, (w2.nu (n34 hg)).1, rd (n34 hg) (by rw [z34]; omega) (fun rt hrt irt => ⟨irt, o2, w2.1.1, ?_⟩)⟩
    rw [gg.2.2.1.1, show mR M2 g 28 = g + 32 from (w2.gp hg).2.2.1.2.2.2.2.2.2.2.2.2.2.2.2.2.1]
    refine ⟨(w2.gp hg).1, (w2.nu (n32 hg)).1, rd (n32 hg) (by rw [z32]; omega) (fun p hp ip => ⟨ip, o2, w2.1.1, ?_⟩)⟩
    rw [← hv] at s1 s2 s3
    rw [← hrt] at s3
    obtain ⟨v', hv', hvW⟩ : ∃ v' : Nat, v = (v' : Int) ∧ v' < W := ⟨v.toNat, by omega, by omega⟩
    subst hv'
    refine (s_MM_set1 (d := d) gg en (hnx z16) hvW s3 ip).mono (fun M3 t3 => ⟨t3.1, ?_⟩)
    obtain ⟨-, m3, f3, gg3, en3, nx3⟩ := t3
    have h3 := h.st m3 (fun q hq => hq) (fun x hx => hx) f3 en3
    rw [show (i : Int) + 1 = ((i + 1 : Nat) : Int) by omega]
    exact ih (i + 1) M3 (by omega) (by omega) h3 nx3
end WAY3
