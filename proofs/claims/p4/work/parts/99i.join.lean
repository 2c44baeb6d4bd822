/-! The reference: nodes of trees. -/
section ND
variable {G : mG} {d a N : Nat} {M M1 : mM}
theorem Wd.draft (h : Wd M a) : mR M a 10 = a + 13 ∨ mR M a 10 = a + 49 := by
  rcases h.1.2.2.2.1 with w | w
  · exact Or.inr w.2
  · exact Or.inl w.2
theorem Wd.gp (h : Wd M a) {g : Nat} (hg : g = a + 13 ∨ g = a + 49) : Gp M g := by
  have k := h.1.2.2.2.2.2.2.2.2.2.2
  rcases hg with w | w <;> rw [w]
  · exact k.1
  · exact k.2
/-- the lists of a game that hold its trees -/
abbrev tL (g : Nat) : Nat → Prop := fun x => x = g + 1 ∨ x = g + 3 ∨ x = g + 5 ∨ x = g + 7 ∨ x = g + 9 ∨ x = g + 11
theorem tL_in {g q : Nat} (hg : g = a + 13 ∨ g = a + 49) (h : tL g q) : q ∈ nums a := by
  rcases hg with w | w <;> subst w <;> rcases h with h | h | h | h | h | h <;> subst h
  · exact nums_o (a := a) (o := 14) (by decide)
  · exact nums_o (a := a) (o := 16) (by decide)
  · exact nums_o (a := a) (o := 18) (by decide)
  · exact nums_o (a := a) (o := 20) (by decide)
  · exact nums_o (a := a) (o := 22) (by decide)
  · exact nums_o (a := a) (o := 24) (by decide)
  · exact nums_o (a := a) (o := 50) (by decide)
  · exact nums_o (a := a) (o := 52) (by decide)
  · exact nums_o (a := a) (o := 54) (by decide)
  · exact nums_o (a := a) (o := 56) (by decide)
  · exact nums_o (a := a) (o := 58) (by decide)
  · exact nums_o (a := a) (o := 60) (by decide)
/-- one number of a list is written anew -/
theorem mv_el {p j : Nat} {v : Int} (hv : i32 v) (hO : mOk M) (h : Wd M a) (hp : p ∈ nums a) (e : M1 = mUI M (mR M p 0) j v) : Mv (fun x => x = p) (fun _ => False) M a M1 ∧ ln M1 p = ln M p ∧ (∀ k, nt M1 p k = if k = j then v else nt M p k) ∧ cp M1 p = cp M p := by
  have hN := h.nu hp
  obtain ⟨n1, n2, n3, n4, n5⟩ := hN
  have f : FI (fun x => x = mR M p 0) M M1 := by rw [e]; exact FI.ui rfl
  have o1 : mOk M1 := by rw [e]; exact mOk_UI hO hv
  have er : mR M1 p = mR M p := by rw [f.2.2.1]
  have hne : p ≠ mR M p 0 := fun w => by rw [← w, n1] at n2; omega
  have ip : mI M1 p = mI M p := f.2.2.2.2.2.2 p hne
  have ec : cp M1 p = cp M p := by unfold cp; rw [er, f.2.1]
  have hN1 : Nu M1 p := ⟨by rw [f.1]; exact n1, by rw [er, f.1]; exact n2, by rw [er, f.2.2.2.2.1]; exact n3, by rw [ip, ec]; exact n4, by rw [ec]; exact n5⟩
  have fn : FN (fun x => x = p) (fun _ => False) M M1 := by
    refine ⟨⟨by rw [f.2.2.2.2.1]; exact Nat.le_refl _, fun q w => by rw [w]; exact n3.1⟩, fun x _ => ⟨by rw [f.1], by rw [f.2.1]⟩, fun x _ _ => by rw [f.2.2.1], fun x _ _ w _ => ⟨f.2.2.2.2.2.2 x (fun z => w p rfl z), by rw [f.2.2.2.1]⟩, fun q w => Or.inl (by rw [f.2.2.1])⟩
  have k := h.one hp fn hN1 (by rw [ec]; exact h.bd hp) (fun q hq hne => ⟨fun w => w, fun w => w⟩)
  refine ⟨⟨o1, k.1, RmL.fi f, fn, fun q hq hne => k.2 q hq hne⟩, by unfold ln; rw [ip], fun i => ?_, ec⟩
  unfold nt
  rw [er, e, mI_UI]
  by_cases z : i = j
  · rw [if_pos ⟨rfl, z⟩, if_pos z]
  · rw [if_neg (fun w => z w.2), if_neg z]
/-- T nodes -/
def nd (M : mM) (g T : Nat) : Prop := ∀ q, tL g q → ln M q = T
abbrev so (M : mM) (g : Nat) : Nat → Int := nt M (g + 1)
abbrev va (M : mM) (g : Nat) : Nat → Int := nt M (g + 7)
abbrev fp (M : mM) (g : Nat) : Nat → Int := nt M (g + 9)
abbrev np (M : mM) (g : Nat) : Nat → Int := nt M (g + 11)
theorem Mv.lst {P S : Nat → Prop} (h : Mv P S M a M1) {q : Nat} (hq : q ∈ nums a) (hp : ¬ P q) : sameN M M1 q := h.2.2.2.2 q hq hp
theorem Wx.mv {P S : Nat → Prop} (h : Wx M a N) (m : Mv P S M a M1) (hP : ∀ q, P q → q ∈ nums a) (h5 : ¬ P (a + 5)) (h7 : ¬ P (a + 7)) (h9 : ¬ P (a + 9)) (ht : ¬ P (mR M a 2)) : Wx M1 a N := by
  obtain ⟨⟨w, l, b⟩, l7, l9, wo, hT⟩ := h
  have s5 := m.lst n5 h5
  have s7 := m.lst n7 h7
  have s9 := m.lst n9 h9
  have st := m.lst w.tape.2.1 ht
  have r := m.rfl_a w hP
  refine ⟨⟨m.2.1, by rw [s5.1]; exact l, b⟩, by rw [s7.1]; exact l7, by rw [s9.1]; exact l9, fun k hk => ?_, by rw [r, st.1]; exact hT⟩
  rw [s5.2.1, s7.2.1, s9.2.1]
  exact (wo k hk).same r st
theorem tL_no {g : Nat} (hg : g = a + 13 ∨ g = a + 49) (h : Wd M a) : ¬ tL g (a + 5) ∧ ¬ tL g (a + 7) ∧ ¬ tL g (a + 9) ∧ ¬ tL g (mR M a 2) ∧ ¬ tL g (a + 91) := by
  have h1 := h.1.2.1
  refine ⟨by omega, by omega, by omega, ?_, by omega⟩
  rcases h1 with w | w <;> rw [w.2] <;> omega
theorem s_MM_node {s : Int} {wd fr g T : Nat} (hs : i32 s) (hO : mOk M) (h : Wx M a N) (hw : wd < N) (hf : fr < N) (hg : g = a + 13 ∨ g = a + 49) (hd : mR M a 10 = g) (hn : nd M g T) (hT : T ≤ 32768) : Ci G y_MM_node (d + 2) [vr a, vi s, vi wd, vi fr] M (fun r M' => Mv (tL g) (fun _ => False) M a M' ∧ r = T ∧ nd M' g (T + 1) ∧ (∀ n, n < T → so M' g n = so M g n ∧ va M' g n = va M g n ∧ fp M' g n = fp M g n ∧ np M' g n = np M g n) ∧ so M' g T = s ∧ va M' g T = 0 ∧ fp M' g T = -1 ∧ np M' g T = -1) := by
  have hwd := h.1.1
  have hN := h.1.2.2
  have hi : ∀ q, tL g q → q ∈ nums a := fun q hq => tL_in hg hq
  have hlt : ∀ (M2 : mM), Wd M2 a → ∀ q, tL g q → q < mZ M2 := fun M2 w q hq => w.lt (hi q hq)
  have sub : ∀ (M2 M3 : mM) (q : Nat) (v : Int), tL g q → Wd M2 a → adQ M2 q v M3 → Mv (tL g) (fun _ => False) M2 a M3 := fun M2 M3 q v hq w t => (mv_add w (hi q hq) t).mono (fun x hx => by rw [hx]; exact hq) (fun x hx => hx) (hlt M2 w)
  have oth : ∀ (M2 M3 : mM) (q r : Nat) (v : Int), tL g q → tL g r → r ≠ q → Wd M2 a → adQ M2 q v M3 → sameN M2 M3 r := fun M2 M3 q r v hq hr hne w t => (mv_add w (hi q hq) t).lst (hi r hr) hne
  have g1 : tL g (g + 1) := by omega
  have g3 : tL g (g + 3) := by omega
  have g5 : tL g (g + 5) := by omega
  have g7 : tL g (g + 7) := by omega
  have g9 : tL g (g + 9) := by omega
  have g11 : tL g (g + 11) := by omega
  have gr : ∀ (M2 : mM), Wd M2 a → mK M2 g = 16 ∧ mR M2 g 0 = g + 1 ∧ mR M2 g 1 = g + 3 ∧ mR M2 g 2 = g + 5 ∧ mR M2 g 3 = g + 7 ∧ mR M2 g 4 = g + 9 ∧ mR M2 g 5 = g + 11 := fun M2 w => by
    have k := w.gp hg
    exact ⟨k.1, k.2.1.1, k.2.1.2.1, k.2.1.2.2.1, k.2.1.2.2.2.1, k.2.1.2.2.2.2.1, k.2.1.2.2.2.2.2.1⟩
  refine k_MM_node hO hs (i32s (by omega) (by omega)) (i32s (by omega) (by omega)) ?_
  rw [hd, (gr M hwd).2.1]
  refine ⟨hwd.1.1, (gr M hwd).1, (hwd.nu (hi _ g1)).1, (s_MN_add hs hO (hwd.nu (hi _ g1)) (by rw [hn _ g1]; omega)).mono (fun M1 t1 => ?_)⟩
  have m1 := sub M M1 _ _ g1 hwd t1
  have w1 := m1.2.1
  have d1 : mR M1 a 10 = g := by rw [m1.rfl_a hwd hi]; exact hd
  have x1 := h.mv m1 hi (tL_no hg hwd).1 (tL_no hg hwd).2.1 (tL_no hg hwd).2.2.1 (tL_no hg hwd).2.2.2.1
  rw [d1, (gr M1 w1).2.2.1]
  refine ⟨m1.1, w1.1.1, (gr M1 w1).1, (s_MM_place0 (d := d) m1.1 x1 hw).mono (fun y M2 h2 => ?_)⟩
  obtain ⟨e2, hy⟩ := h2
  subst e2
  have hy32 : i32 y := by rw [hy]; exact (m1.1 _ _).1
  have s13 := oth M M2 _ (g + 3) _ g1 g3 (by omega) hwd t1
  refine ⟨hy32, m1.1, (w1.nu (hi _ g3)).1, (s_MN_add hy32 m1.1 (w1.nu (hi _ g3)) (by rw [s13.1, hn _ g3]; omega)).mono (fun M3 t3 => ?_)⟩
  have m3 := sub M2 M3 _ _ g3 w1 t3
  have w3 := m3.2.1
  have d3 : mR M3 a 10 = g := by rw [m3.rfl_a w1 hi]; exact d1
  have x3 := x1.mv m3 hi (tL_no hg w1).1 (tL_no hg w1).2.1 (tL_no hg w1).2.2.1 (tL_no hg w1).2.2.2.1
  rw [d3, (gr M3 w3).2.2.2.1]
  refine ⟨m3.1, w3.1.1, (gr M3 w3).1, (s_MM_place0 (d := d) m3.1 x3 hf).mono (fun z M4 h4 => ?_)⟩
  obtain ⟨e4, hz⟩ := h4
  subst e4
  have hz32 : i32 z := by rw [hz]; exact (m3.1 _ _).1
  have s15 := oth M M2 _ (g + 5) _ g1 g5 (by omega) hwd t1
  have s35 := oth M2 M4 _ (g + 5) _ g3 g5 (by omega) w1 t3
  refine ⟨hz32, m3.1, (w3.nu (hi _ g5)).1, (s_MN_add hz32 m3.1 (w3.nu (hi _ g5)) (by rw [s35.1, s15.1, hn _ g5]; omega)).mono (fun M5 t5 => ?_)⟩
  have m5 := sub M4 M5 _ _ g5 w3 t5
  have w5 := m5.2.1
  have d5 : mR M5 a 10 = g := by rw [m5.rfl_a w3 hi]; exact d3
  have s17 := oth M M2 _ (g + 7) _ g1 g7 (by omega) hwd t1
  have s37 := oth M2 M4 _ (g + 7) _ g3 g7 (by omega) w1 t3
  have s57 := oth M4 M5 _ (g + 7) _ g5 g7 (by omega) w3 t5
  have l57 : ln M5 (g + 7) = T := by rw [s57.1, s37.1, s17.1]; exact hn _ g7
  rw [d5, (gr M5 w5).2.2.2.2.1]
  refine ⟨m5.1, w5.1.1, (gr M5 w5).1, (w5.nu (hi _ g7)).1, (s_MN_add (i32s (by omega) (by omega)) m5.1 (w5.nu (hi _ g7)) (by omega)).mono (fun M7 t7 => ?_)⟩
  have m7 := sub M5 M7 _ _ g7 w5 t7
  have w7 := m7.2.1
  have d7 : mR M7 a 10 = g := by rw [m7.rfl_a w5 hi]; exact d5
  have s19 := oth M M2 _ (g + 9) _ g1 g9 (by omega) hwd t1
  have s39 := oth M2 M4 _ (g + 9) _ g3 g9 (by omega) w1 t3
  have s59 := oth M4 M5 _ (g + 9) _ g5 g9 (by omega) w3 t5
  have s79 := oth M5 M7 _ (g + 9) _ g7 g9 (by omega) w5 t7
  have k79 := ((s19.trans s39).trans s59).trans s79
  have l79 : ln M7 (g + 9) = T := by rw [k79.1]; exact hn _ g9
  rw [d7, (gr M7 w7).2.2.2.2.2.1]
  refine ⟨m7.1, w7.1.1, (gr M7 w7).1, (w7.nu (hi _ g9)).1, (s_MN_add (i32s (by omega) (by omega)) m7.1 (w7.nu (hi _ g9)) (by omega)).mono (fun M8 t8 => ?_)⟩
  have m8 := sub M7 M8 _ _ g9 w7 t8
  have w8 := m8.2.1
  have d8 : mR M8 a 10 = g := by rw [m8.rfl_a w7 hi]; exact d7
  have s1b := oth M M2 _ (g + 11) _ g1 g11 (by omega) hwd t1
  have s3b := oth M2 M4 _ (g + 11) _ g3 g11 (by omega) w1 t3
  have s5b := oth M4 M5 _ (g + 11) _ g5 g11 (by omega) w3 t5
  have s7b := oth M5 M7 _ (g + 11) _ g7 g11 (by omega) w5 t7
  have s8b := oth M7 M8 _ (g + 11) _ g9 g11 (by omega) w7 t8
  have k8b := (((s1b.trans s3b).trans s5b).trans s7b).trans s8b
  have l8b : ln M8 (g + 11) = T := by rw [k8b.1]; exact hn _ g11
  rw [d8, (gr M8 w8).2.2.2.2.2.2]
  refine ⟨m8.1, w8.1.1, (gr M8 w8).1, (w8.nu (hi _ g11)).1, (s_MN_add (i32s (by omega) (by omega)) m8.1 (w8.nu (hi _ g11)) (by omega)).mono (fun M9 t9 => ?_)⟩
  have m9 := sub M8 M9 _ _ g11 w8 t9
  have w9 := m9.2.1
  have d9 : mR M9 a 10 = g := by rw [m9.rfl_a w8 hi]; exact d8
  rw [d9, (gr M9 w9).2.1]
  -- what each list holds at the end
  have e1 : sameN M2 M9 (g + 1) := ((((oth M2 M4 _ (g + 1) _ g3 g1 (by omega) w1 t3).trans (oth M4 M5 _ (g + 1) _ g5 g1 (by omega) w3 t5)).trans (oth M5 M7 _ (g + 1) _ g7 g1 (by omega) w5 t7)).trans (oth M7 M8 _ (g + 1) _ g9 g1 (by omega) w7 t8)).trans (oth M8 M9 _ (g + 1) _ g11 g1 (by omega) w8 t9)
  have e3 : sameN M4 M9 (g + 3) := (((oth M4 M5 _ (g + 3) _ g5 g3 (by omega) w3 t5).trans (oth M5 M7 _ (g + 3) _ g7 g3 (by omega) w5 t7)).trans (oth M7 M8 _ (g + 3) _ g9 g3 (by omega) w7 t8)).trans (oth M8 M9 _ (g + 3) _ g11 g3 (by omega) w8 t9)
  have e5 : sameN M5 M9 (g + 5) := ((oth M5 M7 _ (g + 5) _ g7 g5 (by omega) w5 t7).trans (oth M7 M8 _ (g + 5) _ g9 g5 (by omega) w7 t8)).trans (oth M8 M9 _ (g + 5) _ g11 g5 (by omega) w8 t9)
  have e7 : sameN M7 M9 (g + 7) := (oth M7 M8 _ (g + 7) _ g9 g7 (by omega) w7 t8).trans (oth M8 M9 _ (g + 7) _ g11 g7 (by omega) w8 t9)
  have e9 : sameN M8 M9 (g + 9) := oth M8 M9 _ (g + 9) _ g11 g9 (by omega) w8 t9
  obtain ⟨-, -, -, a1, b1, c1, -⟩ := t1
  obtain ⟨-, -, -, a3, b3, c3, -⟩ := t3
  obtain ⟨-, -, -, a5, b5, c5, -⟩ := t5
  obtain ⟨-, -, -, a7, b7, c7, -⟩ := t7
  obtain ⟨-, -, -, a9, b9, c9, -⟩ := t8
  obtain ⟨-, -, -, ab, bb, cb, -⟩ := t9
  have hl1 : ln M9 (g + 1) = T + 1 := by rw [e1.1, a1, hn _ g1]
  have k7 := (s17.trans s37).trans s57
  have tt : ∀ q, ln M q = T → (ln M q).toNat = T := fun q z => by omega
  have t57 : (ln M5 (g + 7)).toNat = T := by omega
  have t79' : (ln M7 (g + 9)).toNat = T := by omega
  have t8b' : (ln M8 (g + 11)).toNat = T := by omega
  rw [tt _ (hn _ g1)] at c1
  rw [t57] at c7
  rw [t79'] at c9
  rw [t8b'] at cb
  refine ⟨m9.1, w9.1.1, (gr M9 w9).1, (w9.nu (hi _ g1)).1, ((((m1.trans m3).trans m5).trans m7).trans m8).trans m9, ?_, fun q hq => ?_, fun n hnT => ⟨?_, ?_, ?_, ?_⟩, ?_, ?_, ?_, cb⟩
  · have : mI M9 (g + 1) 1 = ln M9 (g + 1) := rfl
    omega
  · rcases hq with w | w | w | w | w | w <;> subst w
    · exact hl1
    · rw [e3.1, a3, s13.1, hn _ g3]; rfl
    · rw [e5.1, a5, s35.1, s15.1, hn _ g5]; rfl
    · rw [e7.1, a7, l57]; rfl
    · rw [e9.1, a9, l79]; rfl
    · rw [ab, l8b]; rfl
  · show nt M9 (g + 1) n = _
    rw [e1.2.1, b1 n (by rw [hn _ g1]; omega)]
  · show nt M9 (g + 7) n = _
    rw [e7.2.1, b7 n (by omega), k7.2.1]
  · show nt M9 (g + 9) n = _
    rw [e9.2.1, b9 n (by omega), k79.2.1]
  · show nt M9 (g + 11) n = _
    rw [bb n (by omega), k8b.2.1]
  · show nt M9 (g + 1) T = _
    rw [e1.2.1, c1]
  · show nt M9 (g + 7) T = _
    rw [e7.2.1, c7]
  · show nt M9 (g + 9) T = _
    rw [e9.2.1, c9]
end ND
