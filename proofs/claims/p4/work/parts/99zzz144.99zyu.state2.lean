/-! The reference: a state is explored. -/
section STB
variable {G : mG} {d a g T R W C Z n L w k : Nat} {M : mM} {E : Nat → Nat} {tg : Int} {B : Nat → Nat}
theorem s_MM_state0 (h : GG M a g T R W C Z E tg) (xd : XD M a g n W L w L B) (hw : B L = w) (z16 : mI M a 16 = 0) (hk : k < n) : Cv G y_MM_state0 (d + 9) [vr a, vi k] M (fun M' => mOk M' ∧ sI M a g T R W C Z E tg n L k B M') := by
  have o := h.1
  have wd := h.2.1
  have hg := h.2.2.1.2
  have hn5 := xd.1.2.2
  have hL := xd.le
  have no : ∀ q : Nat, False → q ∈ nums a := fun _ z => z.elim
  have b512 : ((0 : Int) ≤ (k : Int) ∧ (k : Int) < ((512 : Nat) : Int)) := by omega
  have ik : i32 (k : Int) := i32s (by omega) (by omega)
  refine k_MM_state0 o ik ⟨wd.1.1, (s_MM_enter (d := d + 8) (k := k) h (by omega) (fun v hv => xd.2.2.1 k v hk hv)).mono (fun M2 t2 => ?_)⟩
  obtain ⟨o2, m2, en2⟩ := t2
  have w2 := m2.2.1
  have A6 : ∀ {Mx : mM}, Wd Mx a → (mK Mx (a + 106) = 30 ∧ mN Mx (a + 106) = 512) ∧ (mK Mx (a + 107) = 30 ∧ mN Mx (a + 107) = 512) ∧ (mK Mx (a + 108) = 30 ∧ mN Mx (a + 108) = 512) := fun w => ⟨w.1.2.2.2.2.2.2.2.2.1.2.1, w.1.2.2.2.2.2.2.2.2.1.2.2.1, w.1.2.2.2.2.2.2.2.2.1.2.2.2⟩
  have R6 : ∀ {Mx : mM}, Wd Mx a → mR Mx a 32 = a + 106 ∧ mR Mx a 33 = a + 107 ∧ mR Mx a 34 = a + 108 ∧ mR Mx a 35 = a + 109 := fun w => ⟨w.1.2.2.2.2.2.1.2.1, w.1.2.2.2.2.2.1.2.2.1, w.1.2.2.2.2.2.1.2.2.2.1, w.1.2.2.2.2.2.1.2.2.2.2.1⟩
  rw [(R6 w2).1, Int.toNat_natCast]
  refine ⟨o2, w2.1.1, (A6 w2).1.1, by rw [(A6 w2).1.2]; exact b512, fun M3 e3 => ?_⟩
  obtain ⟨m3, f3, l3⟩ := mv_cell (v := 0) ⟨by decide, by decide⟩ o2 w2 (show a ≤ a + 106 by omega) (offx (a := a) (o := 106) (by decide)) e3
  have w3 := m3.2.1
  have l109 : mI M3 (a + 109) 1 = (L : Int) := by
    have e1 := (m3.lst (k109 (a := a)) (fun z => z)).1
    have e2 := (m2.lst (k109 (a := a)) (fun z => z)).1
    exact e1.trans (e2.trans xd.2.2.2.2.1.1)
  rw [(R6 w3).2.2.2, (R6 w3).2.1, l109]
  refine ⟨(w3.nu k109).1, (A6 w3).2.1.1, by rw [(A6 w3).2.1.2]; exact b512, fun M4 e4 => ?_⟩
  obtain ⟨m4, f4, l4⟩ := mv_cell (v := (L : Int)) (i32s (by omega) (by omega)) m3.1 w3 (show a ≤ a + 107 by omega) (offx (a := a) (o := 107) (by decide)) e4
  have w4 := m4.2.1
  rw [(R6 w4).2.2.1]
  refine ⟨(A6 w4).2.2.1, by rw [(A6 w4).2.2.2]; exact b512, fun M5 e5 => ?_⟩
  obtain ⟨m5, f5, l5⟩ := mv_cell (v := 0) ⟨by decide, by decide⟩ m4.1 w4 (show a ≤ a + 108 by omega) (offx (a := a) (o := 108) (by decide)) e5
  have w5 := m5.2.1
  have nz : ∀ {Mx : mM} (q : Nat), False → q < mZ Mx := fun _ z => z.elim
  have m25 : Mv (fun _ => False) (fun x => a + 106 ≤ x ∧ x ≤ a + 108) M2 a M5 := ((m3.mono (fun _ z => z) (fun x z => by omega) nz).trans (m4.mono (fun _ z => z) (fun x z => by omega) nz)).trans (m5.mono (fun _ z => z) (fun x z => by omega) nz)
  have mm : Mv (fun _ => False) (fun x => (a + 101 ≤ x ∧ x ≤ a + 102) ∨ (a + 106 ≤ x ∧ x ≤ a + 108)) M a M5 := (m2.mono (fun _ z => z) (fun x z => Or.inl (by omega)) nz).trans (m25.mono (fun _ z => z) (fun x z => Or.inr z) nz)
  have aI := (mm.fld wd no (by omega)).1
  have F5 : xF M a M5 := xF.mk wd mm (fun _ z => z.elim) (fun x z => Or.inr (Or.inl (by omega))) (fun i _ _ _ _ _ => by rw [aI])
  have gs5 := F5.gs wd hg
  have gg5 := h.gs m5.1 w5 (by rw [mm.rfl_a wd no]) gs5
  have gs25 := gs_st w2 hg m25 no (fun _ z => z.elim) (fun x z => by omega)
  have en5 := en2.mv w2 m25 no gs25 (fun x z => by omega)
  have xd5 := xd.mv wd mm no (fun _ z => z.elim) (fun x z => by omega) gs5 (by rw [aI]) (by rw [aI])
  have c7 : mI M5 (a + 107) k = (L : Int) := by rw [f5, if_neg (fun z => by omega), f4, if_pos ⟨rfl, rfl⟩]
  have c8 : mI M5 (a + 108) k = 0 := by rw [f5, if_pos ⟨rfl, rfl⟩]
  have q7 := (m2.cellL wd no (offx (a := a) (o := 107) (by decide)) (by omega)).1
  have q8 := (m2.cellL wd no (offx (a := a) (o := 108) (by decide)) (by omega)).1
  have d7 : ∀ k', k' ≠ k → mI M5 (a + 107) k' = mI M (a + 107) k' := fun k' hk' => by rw [f5, if_neg (fun z => by omega), f4, if_neg (fun z => hk' z.2), f3, if_neg (fun z => by omega), q7]
  have d8 : ∀ k', k' ≠ k → mI M5 (a + 108) k' = mI M (a + 108) k' := fun k' hk' => by rw [f5, if_neg (fun z => hk' z.2), f4, if_neg (fun z => by omega), f3, if_neg (fun z => by omega), q8]
  have s5 : sI M a g T R W C Z E tg n L k B M5 := ⟨F5, gg5, en5, fun _ => ⟨⟨c7, fun k' hk' => ⟨d7 k' hk', d8 k' hk'⟩⟩, n, L, w, B, Nat.le_refl _, Nat.le_refl _, by rw [c8, Nat.sub_self]; rfl, fun _ _ => rfl, hw, xd5⟩⟩
  have rt : Rt M5 g R W T E tg 1 := by
    have := gg5.2.2.2.2.2.2.2.1.2.2.2.2.2.2
    have := gg5.2.2.2.2.2.2.2.2
    rcases gg5.2.2.2.2.2.2.2.1.2.2.2.2.2.2 with y | y
    · omega
    · exact y
  rw [gg5.2.2.1.1, gg5.2.2.2.2.2.1.2.2.2]
  refine ⟨(w5.gp hg).1, (s_MM_reach (d := d + 3) gg5 en5 rt).mono (fun M6 t6 => ?_)⟩
  obtain ⟨o6, xr6, gg6, en6, v6⟩ := t6
  have x6 := xr6.xe w5
  have w6 := gg6.2.1
  have gs6 := x6.gs w5 hg
  have tb := x6.tab w5
  have un : ∀ x, xE a x → x = a ∨ (a + 97 ≤ x ∧ x ≤ a + 98) ∨ (a + 102 ≤ x ∧ x ≤ a + 104) ∨ (a + 21188 ≤ x ∧ x ≤ a + 21190) := fun x hx => hx
  have xd6 := xd5.mv w5 x6.1 in99 (fun q hq => by omega) (fun x hx => by have := un x hx; omega) gs6 (x6.2 29 (by decide) (by decide) (by decide)) (x6.2 40 (by decide) (by decide) (by decide))
  have s6 : sI M a g T R W C Z E tg n L k B M6 := ⟨F5.trans (x6.xf w5), gg6, en6, fun _ => ⟨by rw [tb.2.1, tb.2.2]; exact ⟨c7, fun k' hk' => ⟨d7 k' hk', d8 k' hk'⟩⟩, n, L, w, B, Nat.le_refl _, Nat.le_refl _, by rw [tb.2.2, c8, Nat.sub_self]; rfl, fun _ _ => rfl, hw, xd6⟩⟩
  have A7 : mK M6 (a + 97) = 33 ∧ mN M6 (a + 97) = 16400 := w6.1.2.2.2.2.2.2.2.1.1
  rw [show mR M6 a 21 = a + 97 from w6.1.2.2.2.2.1.2.2.2.2.2.2.1, (R6 w6).1]
  refine ⟨o6, w6.1.1, fun z6 => ⟨A7.1, by rw [A7.2]; decide, fun _ => ⟨(A6 w6).1.1, by rw [(A6 w6).1.2]; exact b512, fun M7 e7 => ?_⟩, fun _ => s_st72 (by omega) C 0 M6 (by omega) s6⟩, fun z6 => ⟨o6, s6⟩⟩
  obtain ⟨m7, f7, l7⟩ := mv_cell (v := 3) ⟨by decide, by decide⟩ o6 w6 (show a ≤ a + 106 by omega) (offx (a := a) (o := 106) (by decide)) e7
  have aI7 := (m7.fld w6 no (by omega)).1
  have F7 : xF M6 a M7 := xF.mk w6 m7 (fun _ z => z.elim) (fun x z => Or.inr (Or.inl (by omega))) (fun i _ _ _ _ _ => by rw [aI7])
  have gs7 := F7.gs w6 hg
  have xd7 := xd6.mv w6 m7 no (fun _ z => z.elim) (fun x z => by omega) gs7 (by rw [aI7]) (by rw [aI7])
  have e7' : ∀ y, y ≠ a + 106 → mI M7 y = mI M6 y := fun y hy => by
    funext j
    rw [f7, if_neg (fun z => hy z.1)]
  refine ⟨m7.1, s6.1.trans F7, gg6.gs m7.1 m7.2.1 (by rw [m7.rfl_a w6 no]) gs7, en6.mv w6 m7 no gs7 (fun x z => by omega), fun _ => ⟨by rw [e7' (a + 107) (by omega), e7' (a + 108) (by omega), tb.2.1, tb.2.2]; exact ⟨c7, fun k' hk' => ⟨d7 k' hk', d8 k' hk'⟩⟩, n, L, w, B, Nat.le_refl _, Nat.le_refl _, by rw [e7' (a + 108) (by omega), tb.2.2, c8, Nat.sub_self]; rfl, fun _ _ => rfl, hw, xd7⟩⟩
end STB
