/-! The reference: explore. -/
section EXP3
variable {G : mG} {d a g T R W C Z : Nat} {M M1 : mM} {E : Nat → Nat} {tg : Int} {Nt9 : tP9}
theorem s_ex81 (hb : bE Nt9 M a g T R W C Z E tg M1) (z16 : mI M1 a 16 = 0) (h29 : mI M1 a 29 = 1) (h40 : mI M1 a 40 = 0) (hl : ln M1 (a + 109) = 0 ∧ ln M1 (a + 111) = 0 ∧ ln M1 (a + 113) = 0 ∧ ln M1 (a + 115) = 0) : ∀ (t v : Nat) (M2 : mM), v + t = W → Mv (fun _ => False) (fun x => x = a + 105) M1 a M2 → (∀ v', v' < v → mI M2 (a + 105) v' = mI M1 (g + 21) v') → h_MM_explore_81 G (d + 9) a v M2 (fun r M' => i32 r ∧ RI Nt9 M' a ∧ FR M a M') := by
  have gg1 := hb.2.1
  have w1 := gg1.2.1
  have hg := gg1.2.2.1.2
  have hD := gg1.2.2.2.2.2.2.2.1
  have hBd := hD.1
  have no : ∀ q : Nat, False → q ∈ nums a := fun _ z => z.elim
  intro t
  induction t with
  | zero =>
    intro v M2 hv m hn
    have ev : v = W := by omega
    subst ev
    have w2 := m.2.1
    have aI := (m.fld w1 no (by omega)).1
    have b2 := hb.st m (fun _ z => z.elim) (fun x z => Or.inr (Or.inl (by omega))) (fun i _ _ _ _ _ _ _ _ => by rw [aI])
    have gg2 := b2.2.1
    have gs := gs_st w1 hg m no (fun _ z => z.elim) (fun x z => by omega)
    refine k_MM_explore_81 gg2.1 (i32s (by omega) (by omega)) ⟨w2.1.1, ?_⟩
    rw [gg2.2.2.1.1, gg2.2.2.2.2.2.1.2.1]
    refine ⟨(w2.gp hg).1, fun _ => ?_, fun q => absurd (Int.le_refl _) q⟩
    have l : ∀ {q}, q ∈ nums a → ln M1 q = 0 → ln M2 q = ((0 : Nat) : Int) := fun hq hz => by rw [(m.lst hq (fun z => z)).1, hz]; rfl
    have xd : XD M2 a g 1 v 0 0 0 (fun _ => 0) := ⟨⟨by rw [aI, h29]; rfl, by omega, by omega⟩, ⟨by rw [aI, h40]; rfl, by omega⟩, fun k u hk hu => ?_, fun j hj => absurd hj (by omega), ⟨l k109 hl.1, l k111 hl.2.1, l k113 hl.2.2.1, l k115 hl.2.2.2⟩, ⟨rfl, Nat.le_refl _, Nat.le_refl _⟩, fun i hi => absurd hi (by omega)⟩
    · exact s_ex115 b2 512 0 M2 (by omega) ⟨xF.refl gg2.1 w2, gg2, fun _ => ⟨1, 0, 0, fun _ => 0, fun _ => 0, xd, rfl, by omega, rfl, rfl, fun k' hk' => absurd hk' (by omega)⟩⟩ (by omega)
    · have k0 : k = 0 := by omega
      subst k0
      obtain ⟨v1, v2, v3, -⟩ := hD.2.2.2.1 u hu
      rw [(gs.2.1 19 (by omega) (by omega)).1, (gs.2.1 20 (by omega) (by omega)).1, show 12 * 0 + u = u by omega, hn u hu]
      exact ⟨v2, v3⟩
  | succ t ih =>
    intro v M2 hv m hn
    have w2 := m.2.1
    have aI := (m.fld w1 no (by omega)).1
    have b2 := hb.st m (fun _ z => z.elim) (fun x z => Or.inr (Or.inl (by omega))) (fun i _ _ _ _ _ _ _ _ => by rw [aI])
    have gg2 := b2.2.1
    have gs := gs_st w1 hg m no (fun _ z => z.elim) (fun x z => by omega)
    have A5 : mK M2 (a + 105) = 30 ∧ mN M2 (a + 105) = 6144 := w2.1.2.2.2.2.2.2.2.2.1.1
    have b12 : ((0 : Int) ≤ (v : Int) ∧ (v : Int) < ((12 : Nat) : Int)) := by omega
    refine k_MM_explore_81 gg2.1 (i32s (by omega) (by omega)) ⟨w2.1.1, ?_⟩
    rw [gg2.2.2.1.1, gg2.2.2.2.2.2.1.2.1, show mR M2 a 31 = a + 105 from w2.1.2.2.2.2.2.1.1, show mR M2 g 16 = g + 21 from (w2.gp hg).2.2.1.2.2.2.1, Int.toNat_natCast, (gs.2.1 21 (by omega) (by omega)).1]
    refine ⟨(w2.gp hg).1, fun q => absurd q (by omega), fun _ => ⟨(w2.gp hg).2.2.2.2.1.2.2.2.1, by rw [(w2.gp hg).2.2.2.2.1.2.2.2.2]; exact b12, A5.1, by rw [A5.2]; omega, fun M3 e3 => ?_⟩⟩
    obtain ⟨m3, f3, l3⟩ := mv_cell (gg1.1 _ _).1 gg2.1 w2 (show a ≤ a + 105 by omega) (offx (a := a) (o := 105) (by decide)) e3
    rw [show (v : Int) + 1 = ((v + 1 : Nat) : Int) by omega]
    refine ih (v + 1) M3 (by omega) (m.trans m3) (fun v' hv' => ?_)
    rw [f3]
    by_cases y : v' = v
    · rw [if_pos ⟨rfl, y⟩, y]
    · rw [if_neg (fun z => y z.2)]
      exact hn v' (by omega)
theorem s_MM_explore (h : RI Nt9 M a) : Ci G y_MM_explore (d + 10) [vr a] M (fun r M' => i32 r ∧ RI Nt9 M' a ∧ FR M a M') := by
  have wd := h.2.1
  refine k_MM_explore h.1 ⟨wd.1.1, fun v3 e3 M8 e8 => ?_⟩
  have i3 : i32 v3 := by rw [e3]; split <;> exact ⟨by decide, by decide⟩
  obtain ⟨r8, F8, f8⟩ := h.step i3 ⟨by decide, by decide, by decide⟩ e8
  obtain ⟨o8, w8, t8, x8⟩ := id r8
  refine ⟨fun q M12 e12 M14 e14 => ?_, fun q => ⟨⟨by decide, by decide⟩, r8, F8⟩⟩
  have kn : mI M8 a 11 ≠ 0 := fun z => by
    rw [f8, if_pos rfl] at q
    rw [f8, if_neg (by decide)] at z
    rw [if_pos z] at e3
    omega
  have hg := w8.g9
  obtain ⟨T, R, W, C, Z, E, tg, g1, g2, g3, g4, g5, g6, g7⟩ := x8.2.2.1 kn
  generalize hgm : mR M8 a 9 = g at *
  have gg8 : GG M8 a g T R W C Z E tg := ⟨o8, w8, ⟨hgm, hg⟩, g1, g2, g3, g4, g5, g6⟩
  have no : ∀ q : Nat, False → q ∈ nums a := fun _ z => z.elim
  obtain ⟨m12, f12⟩ := mv_fld (v := 1) ⟨by decide, by decide⟩ o8 w8 e12
  obtain ⟨m14, f14⟩ := mv_fld (v := 0) ⟨by decide, by decide⟩ m12.1 m12.2.1 e14
  have up0 : ∀ {Mx My : mM}, Wd Mx a → Mv (fun _ => False) (fun x => x = a) Mx a My → Mv (xP a) (fun x => x = a) Mx a My := fun wx m => m.mono (fun _ z => z.elim) (fun x z => z) (fun q hq => wx.lt (xP_in hq))
  have m814 := (up0 w8 m12).trans (up0 m12.2.1 m14)
  -- the lists are emptied
  have emp : ∀ {p : Nat} {Mx My : mM}, p ∈ nums a → xP a p → Mv (xP a) (fun x => x = a) M8 a Mx → My = mUI Mx p 1 0 → Mv (xP a) (fun x => x = a) M8 a My ∧ mI My a = mI Mx a ∧ ln My p = 0 ∧ ∀ q, q ∈ nums a → q ≠ p → ln My q = ln Mx q := fun {p Mx My} hp hx mx e => by
    have wx := mx.2.1
    have b : 0 ≤ ln Mx p := (wx.nu hp).2.2.2.1.1
    obtain ⟨my, ly, -, -⟩ := mv_set mx.1 wx hp (v := 0) (by omega) b e
    exact ⟨mx.trans (my.mono (fun q hq => by rw [hq]; exact hx) (fun _ z => z.elim) (fun q hq => wx.lt (xP_in hq))), (my.fld wx (fun q hq => by rw [hq]; exact hp) (fun z => z)).1, ly, fun q hq hne => (my.lst hq hne).1⟩
  have R6 : ∀ {Mx : mM}, Wd Mx a → mR Mx a 35 = a + 109 ∧ mR Mx a 36 = a + 111 ∧ mR Mx a 37 = a + 113 ∧ mR Mx a 38 = a + 115 ∧ mR Mx a 39 = a + 117 := fun w => ⟨w.1.2.2.2.2.2.1.2.2.2.2.1, w.1.2.2.2.2.2.1.2.2.2.2.2.1, w.1.2.2.2.2.2.1.2.2.2.2.2.2.1, w.1.2.2.2.2.2.1.2.2.2.2.2.2.2.1, w.1.2.2.2.2.2.1.2.2.2.2.2.2.2.2⟩
  have w14 := m814.2.1
  rw [(R6 w14).1]
  refine ⟨(w14.nu k109).1, fun M17 e17 => ?_⟩
  obtain ⟨m17, a17, l17, u17⟩ := emp k109 (by show a + 109 = a + 99 ∨ a + 109 = a + 109 ∨ a + 109 = a + 111 ∨ a + 109 = a + 113 ∨ a + 109 = a + 115; omega) m814 e17
  have w17 := m17.2.1
  rw [(R6 w17).2.1]
  refine ⟨(w17.nu k111).1, fun M20 e20 => ?_⟩
  obtain ⟨m20, a20, l20, u20⟩ := emp k111 (by show a + 111 = a + 99 ∨ a + 111 = a + 109 ∨ a + 111 = a + 111 ∨ a + 111 = a + 113 ∨ a + 111 = a + 115; omega) m17 e20
  have w20 := m20.2.1
  rw [(R6 w20).2.2.1]
  refine ⟨(w20.nu k113).1, fun M23 e23 => ?_⟩
  obtain ⟨m23, a23, l23, u23⟩ := emp k113 (by show a + 113 = a + 99 ∨ a + 113 = a + 109 ∨ a + 113 = a + 111 ∨ a + 113 = a + 113 ∨ a + 113 = a + 115; omega) m20 e23
  have w23 := m23.2.1
  rw [(R6 w23).2.2.2.1]
  refine ⟨(w23.nu k115).1, fun M26 e26 => ?_⟩
  obtain ⟨m26, a26, l26, u26⟩ := emp k115 (by show a + 115 = a + 99 ∨ a + 115 = a + 109 ∨ a + 115 = a + 111 ∨ a + 115 = a + 113 ∨ a + 115 = a + 115; omega) m23 e26
  have w26 := m26.2.1
  have hin : ∀ q, xP a q → q ∈ nums a := fun q hq => xP_in hq
  have unP : ∀ q, xP a q → q = a + 99 ∨ q = a + 109 ∨ q = a + 111 ∨ q = a + 113 ∨ q = a + 115 := fun q hq => hq
  have ag26 := ag_mv w8 m26 hin (fun x z => by omega)
  have S26 := x8.2.1.ag ag26
  have F26 : ∀ i, i ≠ 29 → i ≠ 40 → mI M26 a i = mI M8 a i := fun i i1 i2 => by rw [a26, a23, a20, a17, f14, if_neg i2, f12, if_neg i1]
  have v29 : mI M26 a 29 = 1 := by rw [a26, a23, a20, a17, f14, if_neg (by decide), f12, if_pos rfl]
  have v40 : mI M26 a 40 = 0 := by rw [a26, a23, a20, a17, f14, if_pos rfl]
  have gs26 := gs_st w8 hg m26 hin (fun q hq z => by
    have z' : q = g + 1 ∨ q = g + 3 ∨ q = g + 5 ∨ q = g + 7 ∨ q = g + 9 ∨ q = g + 11 ∨ q = g + 30 ∨ q = g + 32 ∨ q = g + 34 := z
    have := unP q hq
    omega) (fun x z => by omega)
  have R26 := m26.rfl_a w8 hin
  have gg26 := gg8.gs m26.1 w26 (by rw [R26]) gs26
  have FR26 := F8.trans (FR.mv m26 hin (fun x z => by omega))
  have k109z : ln M26 (a + 109) = 0 := by rw [u26 _ k109 (by omega), u23 _ k109 (by omega), u20 _ k109 (by omega), l17]
  have k111z : ln M26 (a + 111) = 0 := by rw [u26 _ k111 (by omega), u23 _ k111 (by omega), l20]
  have k113z : ln M26 (a + 113) = 0 := by rw [u26 _ k113 (by omega), l23]
  have tp := w8.tape
  have s13 := w8.1.2.1
  have t26 : Tpl Nt9 M26 (mR M26 a 1) ∧ ln M26 (mR M26 a 2) ≤ 16384 := ⟨by rw [R26]; exact t8.1.sm (m26.lst tp.1 (fun z => by have := unP _ z; omega)), by rw [R26, (m26.lst tp.2.1 (fun z => by have := unP _ z; omega)).1]; exact t8.2⟩
  rw [(R6 w26).2.2.2.2]
  refine ⟨S26.1.1, (s_MS_clear m26.1 S26).mono (fun M29 t29 => ?_)⟩
  obtain ⟨o29, f29, S29, s2, s3, s30⟩ := t29
  have m29 := mv_sol o29 w26 f29
  have w29 := m29.2.1
  have R29 := m29.rfl_a w26 no
  have nv : ∀ x, vF (a + 117) x → a + 117 ≤ x ∧ x ≤ a + 117 + 21067 := fun x z => z
  have a29 := (m29.fld w26 no (fun z => by have := nv _ z; omega)).1
  have gs29 := gs_st w26 hg m29 no (fun _ z => z.elim) (fun x z => by have := nv x z; omega)
  have gg29 := gg26.gs o29 w29 (by rw [R29]) gs29
  have tp26 := w26.tape
  have b29 : bE Nt9 M a g T R W C Z E tg M29 := ⟨FR26.trans (FR.fi f29 (fun x z => by have := nv x z; omega)), gg29, ⟨by rw [R29]; exact t26.1.sm (m29.lst tp26.1 (fun z => z)), by rw [R29, (m29.lst tp26.2.1 (fun z => z)).1]; exact t26.2⟩, by rw [a29, F26 48 (by decide) (by decide), F26 11 (by decide) (by decide)]; exact x8.2.2.2.2, ⟨by rw [a29, F26 11 (by decide) (by decide)]; exact kn, g3.2.1.symm.trans g7.1, g3.1.symm.trans g7.2.1, g3.2.2.1.symm.trans g7.2.2⟩, S29, s2, s3, s30⟩
  refine ⟨o29, w29.1.1, fun M33 e33 => ?_⟩
  obtain ⟨m33, f33⟩ := mv_fld (v := 0) ⟨by decide, by decide⟩ o29 w29 e33
  have b33 := b29.st m33 (fun _ z => z.elim) (fun x z => Or.inl z) (fun i _ _ i16 _ _ _ _ _ => by rw [f33, if_neg i16])
  have ls : ∀ {q}, q ∈ nums a → ln M33 q = ln M26 q := fun hq => by rw [(m33.lst hq (fun z => z)).1, (m29.lst hq (fun z => z)).1]
  exact s_ex81 b33 (by rw [f33, if_pos rfl]) (by rw [f33, if_neg (by decide), a29]; exact v29) (by rw [f33, if_neg (by decide), a29]; exact v40) ⟨by rw [ls k109]; exact k109z, by rw [ls k111]; exact k111z, by rw [ls k113]; exact k113z, by rw [ls k115]; exact l26⟩ W 0 M33 (by omega) (Mv.refl b33.2.1.1 b33.2.1.2.1 (fun _ z => z.elim)) (fun v' hv' => absurd hv' (by omega))
end EXP3
