section
/-! The reference: a state is explored. -/
section STB
variable {G : mG} {d a g T R W C Z n L w k : Nat} {M : mM} {E : Nat → Nat} {tg : Int} {B : Nat → Nat}
theorem s_MM_state0 (h : GG M a g T R W C Z E tg) (xd : XD M a g n W L w L B) (hw : B L = w) (z16 : mI M a 16 = 0) (hk : k < n) : Cv G y_MM_state0 (d + 9) [vr a, vi k] M (fun M' => mOk M' ∧ sI M a g T R W C Z E tg n L k B M') := by
  have o := h.1
  have wd := h.2.1
  have hg := h.2.2.1.2
  have hn5 := xd.1.2.2
  have hL := xd.le
  have no : ∀ q : Nat, False → q ∈ nums a := fun _ z => z.elim
  have b512 : ((0 : Int) ≤ (k : Int) ∧ (k : Int) < ((512 : Nat) : Int)) := by omega
  have ik : i32 (k : Int) := i32s (by omega) (by omega)
  refine k_MM_state0 o ik ⟨wd.1.1, (s_MM_enter (d := d + 8) (k := k) h (by omega) (fun v hv => xd.2.2.1 k v hk hv)).mono (fun M2 t2 => ?_)⟩
  obtain ⟨o2, m2, en2⟩ := t2
  have w2 := m2.2.1
  have A6 : ∀ {Mx : mM}, Wd Mx a → (mK Mx (a + 106) = 30 ∧ mN Mx (a + 106) = 512) ∧ (mK Mx (a + 107) = 30 ∧ mN Mx (a + 107) = 512) ∧ (mK Mx (a + 108) = 30 ∧ mN Mx (a + 108) = 512) := fun w => ⟨w.1.2.2.2.2.2.2.2.2.1.2.1, w.1.2.2.2.2.2.2.2.2.1.2.2.1, w.1.2.2.2.2.2.2.2.2.1.2.2.2⟩
  have R6 : ∀ {Mx : mM}, Wd Mx a → mR Mx a 32 = a + 106 ∧ mR Mx a 33 = a + 107 ∧ mR Mx a 34 = a + 108 ∧ mR Mx a 35 = a + 109 := fun w => ⟨w.1.2.2.2.2.2.1.2.1, w.1.2.2.2.2.2.1.2.2.1, w.1.2.2.2.2.2.1.2.2.2.1, w.1.2.2.2.2.2.1.2.2.2.2.1⟩
  rw [(R6 w2).1, Int.toNat_natCast]
  refine ⟨o2, w2.1.1, (A6 w2).1.1, by rw [(A6 w2).1.2]; exact b512, fun M3 e3 => ?_⟩
  obtain ⟨m3, f3, l3⟩ := mv_cell (v := 0) ⟨by decide, by decide⟩ o2 w2 (show a ≤ a + 106 by omega) (offx (a := a) (o := 106) (by decide)) e3
  have w3 := m3.2.1
  have l109 : mI M3 (a + 109) 1 = (L : Int) := by
    have e1 := (m3.lst (k109 (a := a)) (fun z => z)).1
    have e2 := (m2.lst (k109 (a := a)) (fun z => z)).1
    exact e1.trans (e2.trans xd.2.2.2.2.1.1)
  rw [(R6 w3).2.2.2, (R6 w3).2.1, l109]
  refine ⟨(w3.nu k109).1, (A6 w3).2.1.1, by rw [(A6 w3).2.1.2]; exact b512, fun M4 e4 => ?_⟩
  obtain ⟨m4, f4, l4⟩ := mv_cell (v := (L : Int)) (i32s (by omega) (by omega)) m3.1 w3 (show a ≤ a + 107 by omega) (offx (a := a) (o := 107) (by decide)) e4
  have w4 := m4.2.1
  rw [(R6 w4).2.2.1]
  refine ⟨(A6 w4).2.2.1, by rw [(A6 w4).2.2.2]; exact b512, fun M5 e5 => ?_⟩
  obtain ⟨m5, f5, l5⟩ := mv_cell (v := 0) ⟨by decide, by decide⟩ m4.1 w4 (show a ≤ a + 108 by omega) (offx (a := a) (o := 108) (by decide)) e5
  have w5 := m5.2.1
  have nz : ∀ {Mx : mM} (q : Nat), False → q < mZ Mx := fun _ z => z.elim
  have m25 : Mv (fun _ => False) (fun x => a + 106 ≤ x ∧ x ≤ a + 108) M2 a M5 := ((m3.mono (fun _ z => z) (fun x z => by omega) nz).trans (m4.mono (fun _ z => z) (fun x z => by omega) nz)).trans (m5.mono (fun _ z => z) (fun x z => by omega) nz)
  have mm : Mv (fun _ => False) (fun x => (a + 101 ≤ x ∧ x ≤ a + 102) ∨ (a + 106 ≤ x ∧ x ≤ a + 108)) M a M5 := (m2.mono (fun _ z => z) (fun x z => Or.inl (by omega)) nz).trans (m25.mono (fun _ z => z) (fun x z => Or.inr z) nz)
  have aI := (mm.fld wd no (by omega)).1
  have F5 : xF M a M5 := xF.mk wd mm (fun _ z => z.elim) (fun x z => Or.inr (Or.inl (by omega))) (fun i _ _ _ _ _ => by rw [aI])
  have gs5 := F5.gs wd hg
  have gg5 := h.gs m5.1 w5 (by rw [mm.rfl_a wd no]) gs5
  have gs25 := gs_st w2 hg m25 no (fun _ z => z.elim) (fun x z => by omega)
  have en5 := en2.mv w2 m25 no gs25 (fun x z => by omega)
  have xd5 := xd.mv wd mm no (fun _ z => z.elim) (fun x z => by omega) gs5 (by rw [aI]) (by rw [aI])
  have c7 : mI M5 (a + 107) k = (L : Int) := by rw [f5, if_neg (fun z => by omega), f4, if_pos ⟨rfl, rfl⟩]
  have c8 : mI M5 (a + 108) k = 0 := by rw [f5, if_pos ⟨rfl, rfl⟩]
  have q7 := (m2.cellL wd no (offx (a := a) (o := 107) (by decide)) (by omega)).1
  have q8 := (m2.cellL wd no (offx (a := a) (o := 108) (by decide)) (by omega)).1
  have d7 : ∀ k', k' ≠ k → mI M5 (a + 107) k' = mI M (a + 107) k' := fun k' hk' => by rw [f5, if_neg (fun z => by omega), f4, if_neg (fun z => hk' z.2), f3, if_neg (fun z => by omega), q7]
  have d8 : ∀ k', k' ≠ k → mI M5 (a + 108) k' = mI M (a + 108) k' := fun k' hk' => by rw [f5, if_neg (fun z => hk' z.2), f4, if_neg (fun z => by omega), f3, if_neg (fun z => by omega), q8]
  have s5 : sI M a g T R W C Z E tg n L k B M5 := ⟨F5, gg5, en5, fun _ => ⟨⟨c7, fun k' hk' => ⟨d7 k' hk', d8 k' hk'⟩⟩, n, L, w, B, Nat.le_refl _, Nat.le_refl _, by rw [c8, Nat.sub_self]; rfl, fun _ _ => rfl, hw, xd5⟩⟩
  have rt : Rt M5 g R W T E tg 1 := by
    have := gg5.2.2.2.2.2.2.2.1.2.2.2.2.2.2
    have := gg5.2.2.2.2.2.2.2.2
    rcases gg5.2.2.2.2.2.2.2.1.2.2.2.2.2.2 with y | y
    · omega
    · exact y
  rw [gg5.2.2.1.1, gg5.2.2.2.2.2.1.2.2.2]
  refine ⟨(w5.gp hg).1, (s_MM_reach (d := d + 3) gg5 en5 rt).mono (fun M6 t6 => ?_)⟩
  obtain ⟨o6, xr6, gg6, en6, v6⟩ := t6
  have x6 := xr6.xe w5
  have w6 := gg6.2.1
  have gs6 := x6.gs w5 hg
  have tb := x6.tab w5
  have un : ∀ x, xE a x → x = a ∨ (a + 97 ≤ x ∧ x ≤ a + 98) ∨ (a + 102 ≤ x ∧ x ≤ a + 104) ∨ (a + 21188 ≤ x ∧ x ≤ a + 21190) := fun x hx => hx
  have xd6 := xd5.mv w5 x6.1 in99 (fun q hq => by omega) (fun x hx => by have := un x hx; omega) gs6 (x6.2 29 (by decide) (by decide) (by decide)) (x6.2 40 (by decide) (by decide) (by decide))
  have s6 : sI M a g T R W C Z E tg n L k B M6 := ⟨F5.trans (x6.xf w5), gg6, en6, fun _ => ⟨by rw [tb.2.1, tb.2.2]; exact ⟨c7, fun k' hk' => ⟨d7 k' hk', d8 k' hk'⟩⟩, n, L, w, B, Nat.le_refl _, Nat.le_refl _, by rw [tb.2.2, c8, Nat.sub_self]; rfl, fun _ _ => rfl, hw, xd6⟩⟩
  have A7 : mK M6 (a + 97) = 33 ∧ mN M6 (a + 97) = 16400 := w6.1.2.2.2.2.2.2.2.1.1
  rw [show mR M6 a 21 = a + 97 from w6.1.2.2.2.2.1.2.2.2.2.2.2.1, (R6 w6).1]
  refine ⟨o6, w6.1.1, fun z6 => ⟨A7.1, by rw [A7.2]; decide, fun _ => ⟨(A6 w6).1.1, by rw [(A6 w6).1.2]; exact b512, fun M7 e7 => ?_⟩, fun _ => s_st72 (by omega) C 0 M6 (by omega) s6⟩, fun z6 => ⟨o6, s6⟩⟩
  obtain ⟨m7, f7, l7⟩ := mv_cell (v := 3) ⟨by decide, by decide⟩ o6 w6 (show a ≤ a + 106 by omega) (offx (a := a) (o := 106) (by decide)) e7
  have aI7 := (m7.fld w6 no (by omega)).1
  have F7 : xF M6 a M7 := xF.mk w6 m7 (fun _ z => z.elim) (fun x z => Or.inr (Or.inl (by omega))) (fun i _ _ _ _ _ => by rw [aI7])
  have gs7 := F7.gs w6 hg
  have xd7 := xd6.mv w6 m7 no (fun _ z => z.elim) (fun x z => by omega) gs7 (by rw [aI7]) (by rw [aI7])
  have e7' : ∀ y, y ≠ a + 106 → mI M7 y = mI M6 y := fun y hy => by
    funext j
    rw [f7, if_neg (fun z => hy z.1)]
  refine ⟨m7.1, s6.1.trans F7, gg6.gs m7.1 m7.2.1 (by rw [m7.rfl_a w6 no]) gs7, en6.mv w6 m7 no gs7 (fun x z => by omega), fun _ => ⟨by rw [e7' (a + 107) (by omega), e7' (a + 108) (by omega), tb.2.1, tb.2.2]; exact ⟨c7, fun k' hk' => ⟨d7 k' hk', d8 k' hk'⟩⟩, n, L, w, B, Nat.le_refl _, Nat.le_refl _, by rw [e7' (a + 108) (by omega), tb.2.2, c8, Nat.sub_self]; rfl, fun _ _ => rfl, hw, xd7⟩⟩
end STB
end
section
/-! The reference: the solver is told. -/
section TOL
variable {G : mG} {d s i c b : Nat} {M M' : mM} {F B : Nat → Nat} {mu to up dn : Nat → Int}
abbrev tlS (s : Nat) : Nat → Prop := fun y => y = s ∨ (s + 22 ≤ y ∧ y ≤ s + 28) ∨ y = s + 32
/-- the solver's room, with no values -/
def Rs (M : mM) (s : Nat) : Prop := Vk M s ∧ Wk M s ∧ Ct M s ∧ (∀ e, eL e → Rm M s e) ∧ ∀ w, w < 3 → mI M (s + 30) w = 0
theorem Rs.fi (h : Rs M s) (f : FI (tlS s) M M') : Rs M' s := by
  obtain ⟨h1, h2, h3, h4, h5⟩ := h
  have un : ∀ y, tlS s y → y = s ∨ (s + 22 ≤ y ∧ y ≤ s + 28) ∨ y = s + 32 := fun y hy => hy
  refine ⟨h1.fi f, h2.far f (fun y q => by have := un y q; omega), h3.out f (fun y q => by have := un y q; omega), fun e he => (h4 e he).out f (fun y q => by have := un y q; omega), fun w hw => ?_⟩
  rw [f.2.2.2.2.2.2 (s + 30) (fun q => by have := un _ q; omega)]
  exact h5 w hw
/-- i states, c commands and b branches have been told -/
def TL (M : mM) (s : Nat) (F B : Nat → Nat) (mu to up dn : Nat → Int) (i c b : Nat) : Prop := Rs M s ∧ (mI M s 1 = (i : Int) ∧ mI M s 2 = (c : Int) ∧ mI M s 3 = (b : Int)) ∧ ((∀ j, j < i → mI M (s + 23) j = (F j : Int)) ∧ mI M (s + 23) i = (c : Int)) ∧ ((∀ j, j < c → mI M (s + 25) j = (B j : Int)) ∧ mI M (s + 25) c = (b : Int)) ∧ (∀ j, j < c → mI M (s + 24) j = mu j) ∧ (∀ j, j < b → mI M (s + 26) j = to j ∧ mI M (s + 27) j = up j ∧ mI M (s + 28) j = dn j) ∧ ∀ j, j < i → mI M (s + 32) j = 0
theorem s_tl_state {q : Int} (hq : i32 q) (hO : mOk M) (h : TL M s F B mu to up dn i c b) (hi : i < 512) (hc : c = F i) : Cv G y_MS_addState d [vr s, vi q] M (fun M' => mOk M' ∧ FI (tlS s) M M' ∧ TL M' s F B mu to up dn (i + 1) c b) := by
  obtain ⟨r, ⟨n1, n2, n3⟩, ⟨f1, f2⟩, ⟨b1, b2⟩, m1, w1, t1⟩ := h
  refine (s_MS_addState hq hO r.1 n1 hi).mono (fun M' t => ?_)
  obtain ⟨o, f, e1, e2, e3, e4⟩ := t
  have f' : FI (tlS s) M M' := f.mono (fun y z => by show y = s ∨ (s + 22 ≤ y ∧ y ≤ s + 28) ∨ y = s + 32; omega)
  have keep : ∀ x, (x = s + 24 ∨ x = s + 25 ∨ x = s + 26 ∨ x = s + 27 ∨ x = s + 28) → mI M' x = mI M x := fun x hx => f.2.2.2.2.2.2 x (by omega)
  refine ⟨o, f', r.fi f', ⟨by rw [e1, if_pos rfl]; omega, by rw [e1, if_neg (by omega)]; exact n2, by rw [e1, if_neg (by omega)]; exact n3⟩, ⟨fun j hj => ?_, by rw [e4, if_pos rfl]; exact n2⟩, by rw [keep (s + 25) (by omega)]; exact ⟨b1, b2⟩, by rw [keep (s + 24) (by omega)]; exact m1, by rw [keep (s + 26) (by omega), keep (s + 27) (by omega), keep (s + 28) (by omega)]; exact w1, fun j hj => ?_⟩
  · rw [e4, if_neg (by omega)]
    by_cases z : j = i
    · rw [z, f2, hc]
    · exact f1 j (by omega)
  · rw [e3]
    by_cases z : j = i
    · rw [if_pos z]
    · rw [if_neg z]; exact t1 j (by omega)
theorem s_tl_command (hO : mOk M) (h : TL M s F B mu to up dn i c b) (hi : i ≤ 512) (hc : c < 4200) (hb : b = B c) (hm : i32 (mu c)) : Cv G y_MS_addCommand d [vr s, vi (mu c)] M (fun M' => mOk M' ∧ FI (tlS s) M M' ∧ TL M' s F B mu to up dn i (c + 1) b) := by
  obtain ⟨r, ⟨n1, n2, n3⟩, ⟨f1, f2⟩, ⟨b1, b2⟩, m1, w1, t1⟩ := h
  refine (s_MS_addCommand hm hO r.1 n1 hi n2 hc).mono (fun M' t => ?_)
  obtain ⟨o, f, e1, e2, e3, e4⟩ := t
  have f' : FI (tlS s) M M' := f.mono (fun y z => by show y = s ∨ (s + 22 ≤ y ∧ y ≤ s + 28) ∨ y = s + 32; omega)
  have keep : ∀ x, (x = s + 26 ∨ x = s + 27 ∨ x = s + 28 ∨ x = s + 32) → mI M' x = mI M x := fun x hx => f.2.2.2.2.2.2 x (by omega)
  refine ⟨o, f', r.fi f', ⟨by rw [e1, if_neg (by omega)]; exact n1, by rw [e1, if_pos rfl]; omega, by rw [e1, if_neg (by omega)]; exact n3⟩, ⟨fun j hj => by rw [e4, if_neg (by omega)]; exact f1 j hj, by rw [e4, if_pos rfl]; omega⟩, ⟨fun j hj => ?_, by rw [e3, if_pos rfl]; exact n3⟩, fun j hj => ?_, by rw [keep (s + 26) (by omega), keep (s + 27) (by omega), keep (s + 28) (by omega)]; exact w1, by rw [keep (s + 32) (by omega)]; exact t1⟩
  · rw [e3, if_neg (by omega)]
    by_cases z : j = c
    · rw [z, b2, hb]
    · exact b1 j (by omega)
  · rw [e2]
    by_cases z : j = c
    · rw [if_pos z, z]
    · rw [if_neg z]; exact m1 j (by omega)
theorem s_tl_branch (hO : mOk M) (h : TL M s F B mu to up dn i c b) (hc : c ≤ 4200) (hb : b < 4096) (h1 : i32 (to b)) (h2 : i32 (up b)) (h3 : i32 (dn b)) : Cv G y_MS_addBranch d [vr s, vi (to b), vi (up b), vi (dn b)] M (fun M' => mOk M' ∧ FI (tlS s) M M' ∧ TL M' s F B mu to up dn i c (b + 1)) := by
  obtain ⟨r, ⟨n1, n2, n3⟩, ⟨f1, f2⟩, ⟨b1, b2⟩, m1, w1, t1⟩ := h
  refine (s_MS_addBranch h1 h2 h3 hO r.1 n2 hc n3 hb).mono (fun M' t => ?_)
  obtain ⟨o, f, e1, e2, e3, e4, e5⟩ := t
  have f' : FI (tlS s) M M' := f.mono (fun y z => by show y = s ∨ (s + 22 ≤ y ∧ y ≤ s + 28) ∨ y = s + 32; omega)
  have keep : ∀ x, (x = s + 23 ∨ x = s + 24 ∨ x = s + 32) → mI M' x = mI M x := fun x hx => f.2.2.2.2.2.2 x (by omega)
  refine ⟨o, f', r.fi f', ⟨by rw [e1, if_neg (by omega)]; exact n1, by rw [e1, if_neg (by omega)]; exact n2, by rw [e1, if_pos rfl]; omega⟩, by rw [keep (s + 23) (by omega)]; exact ⟨f1, f2⟩, ⟨fun j hj => by rw [e5, if_neg (by omega)]; exact b1 j hj, by rw [e5, if_pos rfl]; omega⟩, by rw [keep (s + 24) (by omega)]; exact m1, fun j hj => ?_, by rw [keep (s + 32) (by omega)]; exact t1⟩
  rw [e2, e3, e4]
  by_cases z : j = b
  · rw [if_pos z, if_pos z, if_pos z, z]
    exact ⟨rfl, rfl, rfl⟩
  · rw [if_neg z, if_neg z, if_neg z]
    exact w1 j (by omega)
/-- all has been told: the solver is sound -/
theorem TL.sv {n L w : Nat} (h : TL M s F B mu to up dn n L w) (hn : n ≤ 512) (hL : L ≤ 4200) (hw : w ≤ 4096) (hF : F 0 = 0 ∧ F n = L ∧ ∀ k, k < n → F k ≤ F (k + 1)) (hB : B 0 = 0 ∧ B L = w ∧ ∀ k, k < L → B k < B (k + 1) ∧ B (k + 1) ≤ B k + 8) (hto : ∀ j, j < w → 0 ≤ to j ∧ to j < n) (hmu : ∀ k, k < L → 1 ≤ mu k ∧ mu k < 1000000000) (hud : ∀ j, j < w → 0 < up j ∧ 0 < dn j) (hdv : ∀ k, k < L → ∀ j, B k ≤ j → j < B (k + 1) → dn j ∣ mu k) (hsm : ∀ k, k < L → sm (fun t => up (B k + t) * (mu k / dn (B k + t))) (B (k + 1) - B k) = mu k) : Sv M s n ∧ ∀ k, k < n → mny M s k = ((F (k + 1) - F k : Nat) : Int) := by
  obtain ⟨⟨r1, r2, r3, r4, r5⟩, ⟨n1, n2, n3⟩, ⟨f1, f2⟩, ⟨b1, b2⟩, m1, w1, t1⟩ := h
  have mono : ∀ (H : Nat → Nat) (N : Nat), (∀ k, k < N → H k ≤ H (k + 1)) → ∀ i j, i ≤ j → j ≤ N → H i ≤ H j := fun H N hH i j hij hj => by
    induction j with
    | zero => rw [show i = 0 by omega]; exact Nat.le_refl _
    | succ j ih =>
      by_cases z : i = j + 1
      · rw [z]; exact Nat.le_refl _
      · have := ih (by omega) (by omega)
        have := hH j (by omega)
        omega
  have fF := mono F n hF.2.2
  have fB := mono B L (fun k hk => Nat.le_of_lt (hB.2.2 k hk).1)
  have eF : ∀ j, j ≤ n → mI M (s + 23) j = (F j : Int) := fun j hj => by
    by_cases z : j = n
    · rw [z, f2, hF.2.1]
    · exact f1 j (by omega)
  have eB : ∀ j, j ≤ L → mI M (s + 25) j = (B j : Int) := fun j hj => by
    by_cases z : j = L
    · rw [z, b2, hB.2.1]
    · exact b1 j (by omega)
  have my : ∀ k, k < n → mny M s k = ((F (k + 1) - F k : Nat) : Int) := fun k hk => by
    unfold mny
    rw [eF (k + 1) (by omega), eF k (by omega)]
    have := hF.2.2 k hk
    omega
  refine ⟨⟨r1, ⟨by omega, by omega, by omega, by omega, by rw [eF 0 (by omega), hF.1]; rfl, by rw [eB 0 (by omega), hB.1]; rfl, fun i j hij hj => ?_, by rw [n1, Int.toNat_natCast, eF n (Nat.le_refl _), hF.2.1, n2], fun i j hij hj => ?_, by rw [n2, Int.toNat_natCast, eB L (Nat.le_refl _), hB.2.1, n3], fun j hj => ?_⟩, fun k hk => ?_, n1, fun k hk => ?_, r2, r3, r4, fun v hv => ⟨Or.inl (r5 v hv), fun q => by rw [r5 v hv] at q; exact absurd q (by decide)⟩, fun q => by rw [r5 0 (by omega)] at q; exact absurd q (by decide)⟩, my⟩
  · rw [eF i (by omega), eF j (by omega)]
    have := fF i j hij (by omega)
    omega
  · rw [eB i (by omega), eB j (by omega)]
    have := fB i j hij (by omega)
    omega
  · rw [(w1 j (by omega)).1, n1]
    exact hto j (by omega)
  · have kL : k < L := by omega
    have bk := hB.2.2 k kL
    have bw := fB (k + 1) L (by omega) (Nat.le_refl _)
    have e1 : nb M s k = B (k + 1) - B k := by unfold nb; rw [eB (k + 1) (by omega), eB k (by omega)]; omega
    have e2 : bg M s k = B k := by unfold bg; rw [eB k (by omega)]; omega
    rw [e1, e2, m1 k kL]
    refine ⟨⟨(hmu k kL).1, (hmu k kL).2, by omega⟩, fun t ht => ?_, ?_⟩
    · have := w1 (B k + t) (by omega)
      rw [this.2.1, this.2.2]
      exact ⟨(hud _ (by omega)).1, (hud _ (by omega)).2, hdv k kL _ (by omega) (by omega)⟩
    · refine Eq.trans (sm_congr _ (fun t ht => ?_)) (hsm k kL)
      have := w1 (B k + t) (by omega)
      show mI M (s + 27) (B k + t) * (mu k / mI M (s + 28) (B k + t)) = up (B k + t) * (mu k / dn (B k + t))
      rw [this.2.1, this.2.2]
  · have kn : k < n := by omega
    rw [t1 k kn]
    exact ⟨Int.le_refl _, fun q => q⟩
end TOL
end
