section
/-! The reference: a game is cleared; items. -/
section CL
variable {G : mG} {d a g N : Nat} {M M2 M3 : mM}
/-- the lists of a game -/
abbrev gL9 (g : Nat) : Nat → Prop := fun x => x = g + 1 ∨ x = g + 3 ∨ x = g + 5 ∨ x = g + 7 ∨ x = g + 9 ∨ x = g + 11 ∨ x = g + 30 ∨ x = g + 32 ∨ x = g + 34
theorem gLk1 (g : Nat) : gL9 g (g + 1) := Or.inl rfl
theorem gLk3 (g : Nat) : gL9 g (g + 3) := Or.inr (Or.inl rfl)
theorem gLk5 (g : Nat) : gL9 g (g + 5) := Or.inr (Or.inr (Or.inl rfl))
theorem gLk7 (g : Nat) : gL9 g (g + 7) := Or.inr (Or.inr (Or.inr (Or.inl rfl)))
theorem gLk9 (g : Nat) : gL9 g (g + 9) := Or.inr (Or.inr (Or.inr (Or.inr (Or.inl rfl))))
theorem gLk11 (g : Nat) : gL9 g (g + 11) := Or.inr (Or.inr (Or.inr (Or.inr (Or.inr (Or.inl rfl)))))
theorem gLk30 (g : Nat) : gL9 g (g + 30) := Or.inr (Or.inr (Or.inr (Or.inr (Or.inr (Or.inr (Or.inl rfl))))))
theorem gLk32 (g : Nat) : gL9 g (g + 32) := Or.inr (Or.inr (Or.inr (Or.inr (Or.inr (Or.inr (Or.inr (Or.inl rfl)))))))
theorem gLk34 (g : Nat) : gL9 g (g + 34) := Or.inr (Or.inr (Or.inr (Or.inr (Or.inr (Or.inr (Or.inr (Or.inr (rfl))))))))
theorem gL9_in {q : Nat} (hg : g = a + 13 ∨ g = a + 49) (h : gL9 g q) : q ∈ nums a := by
  have h' : q = g + 1 ∨ q = g + 3 ∨ q = g + 5 ∨ q = g + 7 ∨ q = g + 9 ∨ q = g + 11 ∨ q = g + 30 ∨ q = g + 32 ∨ q = g + 34 := h
  by_cases z : tL g q
  · exact tL_in hg z
  · have h2 : q = g + 30 ∨ q = g + 32 ∨ q = g + 34 := by
      have z' : ¬ (q = g + 1 ∨ q = g + 3 ∨ q = g + 5 ∨ q = g + 7 ∨ q = g + 9 ∨ q = g + 11) := z
      omega
    rcases h2 with y | y | y <;> rw [y]
    · exact n30 hg
    · exact n32 hg
    · exact n34 hg
/-- a list is emptied -/
theorem clr_l {p : Nat} (hg : g = a + 13 ∨ g = a + 49) (h : Mv (gL9 g) (fun x => x = g) M a M2) (hp : gL9 g p) (e : M3 = mUI M2 p 1 0) : Mv (gL9 g) (fun x => x = g) M a M3 ∧ ln M3 p = 0 ∧ (∀ q, q ∈ nums a → q ≠ p → ln M3 q = ln M2 q) ∧ ∀ i, mI M3 g i = mI M2 g i := by
  have w2 := h.2.1
  have pn := gL9_in hg hp
  have b : 0 ≤ ln M2 p := (w2.nu pn).2.2.2.1.1
  obtain ⟨m3, l3, -, -⟩ := mv_set h.1 w2 pn (v := 0) (by omega) b e
  have a0 := goff0 hg
  refine ⟨h.trans (m3.mono (fun q hq => by rw [hq]; exact hp) (fun _ z => z.elim) (fun q hq => w2.lt (gL9_in hg hq))), l3, fun q hq hne => (m3.lst hq hne).1, fun i => ?_⟩
  rw [e, mI_UI, if_neg (fun z => a0.2.1 (by rw [z.1]; exact pn))]
theorem clr_f {i : Nat} {v : Int} (hv : i32 v) (hg : g = a + 13 ∨ g = a + 49) (h : Mv (gL9 g) (fun x => x = g) M a M2) (e : M3 = mUI M2 g i v) : Mv (gL9 g) (fun x => x = g) M a M3 ∧ (∀ q, q ∈ nums a → ln M3 q = ln M2 q) ∧ ∀ j, mI M3 g j = if j = i then v else mI M2 g j := by
  have w2 := h.2.1
  have a0 := goff0 hg
  obtain ⟨m3, f3, -⟩ := mv_cell hv h.1 w2 (show a ≤ g by omega) ⟨a0.1, a0.2.1, a0.2.2.1⟩ e
  refine ⟨h.trans (m3.mono (fun _ z => z.elim) (fun _ z => z) (fun q hq => w2.lt (gL9_in hg hq))), fun q hq => (m3.lst hq (fun z => z)).1, fun j => ?_⟩
  rw [f3]
  by_cases z : j = i
  · rw [if_pos ⟨rfl, z⟩, if_pos z]
  · rw [if_neg (fun y => z y.2), if_neg z]
/-- a game is empty -/
def clQ (M : mM) (a g : Nat) (M' : mM) : Prop := Mv (gL9 g) (fun x => x = g) M a M' ∧ (∀ q, gL9 g q → ln M' q = 0) ∧ mI M' g 6 = 0 ∧ mI M' g 12 = 0 ∧ mI M' g 17 = -1 ∧ mI M' g 18 = 0
theorem s_MG_clear (hO : mOk M) (w : Wd M a) (hg : g = a + 13 ∨ g = a + 49) : Cv G y_MG_clear (d + 1) [vr g] M (fun M' => mOk M' ∧ clQ M a g M') := by
  have gp : ∀ {Mx : mM}, Wd Mx a → mK Mx g = 16 := fun w => (w.gp hg).1
  have kn : ∀ {Mx : mM} {p : Nat}, Wd Mx a → gL9 g p → mK Mx p = 15 := fun w hp => (w.nu (gL9_in hg hp)).1
  have r0 : ∀ {Mx : mM}, Wd Mx a → mR Mx g 0 = g + 1 := fun w => (w.gp hg).2.1.1
  have r1 : ∀ {Mx : mM}, Wd Mx a → mR Mx g 1 = g + 3 := fun w => (w.gp hg).2.1.2.1
  have r2 : ∀ {Mx : mM}, Wd Mx a → mR Mx g 2 = g + 5 := fun w => (w.gp hg).2.1.2.2.1
  have r3 : ∀ {Mx : mM}, Wd Mx a → mR Mx g 3 = g + 7 := fun w => (w.gp hg).2.1.2.2.2.1
  have r4 : ∀ {Mx : mM}, Wd Mx a → mR Mx g 4 = g + 9 := fun w => (w.gp hg).2.1.2.2.2.2.1
  have r5 : ∀ {Mx : mM}, Wd Mx a → mR Mx g 5 = g + 11 := fun w => (w.gp hg).2.1.2.2.2.2.2.1
  have r27 : ∀ {Mx : mM}, Wd Mx a → mR Mx g 27 = g + 30 := fun w => (w.gp hg).2.2.1.2.2.2.2.2.2.2.2.2.2.2.2.1
  have r28 : ∀ {Mx : mM}, Wd Mx a → mR Mx g 28 = g + 32 := fun w => (w.gp hg).2.2.1.2.2.2.2.2.2.2.2.2.2.2.2.2.1
  have r29 : ∀ {Mx : mM}, Wd Mx a → mR Mx g 29 = g + 34 := fun w => (w.gp hg).2.2.1.2.2.2.2.2.2.2.2.2.2.2.2.2.2
  have i1 : g + 1 ∈ nums a := gL9_in hg (gLk1 g)
  have i3 : g + 3 ∈ nums a := gL9_in hg (gLk3 g)
  have i5 : g + 5 ∈ nums a := gL9_in hg (gLk5 g)
  have i7 : g + 7 ∈ nums a := gL9_in hg (gLk7 g)
  have i9 : g + 9 ∈ nums a := gL9_in hg (gLk9 g)
  have i11 : g + 11 ∈ nums a := gL9_in hg (gLk11 g)
  have i30 := n30 hg
  have i32' := n32 hg
  have i34 := n34 hg
  have m0 : Mv (gL9 g) (fun x => x = g) M a M := Mv.refl hO w (fun q hq => w.lt (gL9_in hg hq))
  refine k_MG_clear hO ?_
  rw [r0 w]
  refine ⟨gp w, kn w (gLk1 g), fun M1 e1 => ?_⟩
  obtain ⟨m1, l1, o1, f1⟩ := clr_l hg m0 (gLk1 g) e1
  rw [r1 m1.2.1]
  refine ⟨kn m1.2.1 (gLk3 g), fun M2 e2 => ?_⟩
  obtain ⟨m2, l2, o2, f2⟩ := clr_l hg m1 (gLk3 g) e2
  rw [r2 m2.2.1]
  refine ⟨kn m2.2.1 (gLk5 g), fun M3 e3 => ?_⟩
  obtain ⟨m3, l3, o3, f3⟩ := clr_l hg m2 (gLk5 g) e3
  rw [r3 m3.2.1]
  refine ⟨kn m3.2.1 (gLk7 g), fun M4 e4 => ?_⟩
  obtain ⟨m4, l4, o4, f4⟩ := clr_l hg m3 (gLk7 g) e4
  rw [r4 m4.2.1]
  refine ⟨kn m4.2.1 (gLk9 g), fun M5 e5 => ?_⟩
  obtain ⟨m5, l5, o5, f5⟩ := clr_l hg m4 (gLk9 g) e5
  rw [r5 m5.2.1]
  refine ⟨kn m5.2.1 (gLk11 g), fun M6 e6 M7 e7 M8 e8 M9 e9 M10 e10 => ?_⟩
  obtain ⟨m6, l6, o6, f6⟩ := clr_l hg m5 (gLk11 g) e6
  obtain ⟨m7, o7, f7⟩ := clr_f (v := 0) ⟨by decide, by decide⟩ hg m6 e7
  obtain ⟨m8, o8, f8⟩ := clr_f (v := 0) ⟨by decide, by decide⟩ hg m7 e8
  obtain ⟨m9, o9, f9⟩ := clr_f (v := -1) ⟨by decide, by decide⟩ hg m8 e9
  obtain ⟨m10, o10, f10⟩ := clr_f (v := 0) ⟨by decide, by decide⟩ hg m9 e10
  rw [r27 m10.2.1]
  refine ⟨kn m10.2.1 (gLk30 g), fun M11 e11 => ?_⟩
  obtain ⟨m11, l11, o11, f11⟩ := clr_l hg m10 (gLk30 g) e11
  rw [r28 m11.2.1]
  refine ⟨kn m11.2.1 (gLk32 g), fun M12 e12 => ?_⟩
  obtain ⟨m12, l12, o12, f12⟩ := clr_l hg m11 (gLk32 g) e12
  rw [r29 m12.2.1]
  refine ⟨kn m12.2.1 (gLk34 g), fun M13 e13 => ?_⟩
  obtain ⟨m13, l13, o13, f13⟩ := clr_l hg m12 (gLk34 g) e13
  have last : ∀ q, q ∈ nums a → q ≠ g + 30 → q ≠ g + 32 → q ≠ g + 34 → ln M13 q = ln M6 q := fun q hq h1 h2 h3 => by rw [o13 q hq h3, o12 q hq h2, o11 q hq h1, o10 q hq, o9 q hq, o8 q hq, o7 q hq]
  refine ⟨m13.1, m13, fun q hq => ?_, ?_, ?_, ?_, ?_⟩
  · have h' : q = g + 1 ∨ q = g + 3 ∨ q = g + 5 ∨ q = g + 7 ∨ q = g + 9 ∨ q = g + 11 ∨ q = g + 30 ∨ q = g + 32 ∨ q = g + 34 := hq
    rcases h' with y | y | y | y | y | y | y | y | y <;> rw [y]
    · rw [last _ i1 (by omega) (by omega) (by omega), o6 _ i1 (by omega), o5 _ i1 (by omega), o4 _ i1 (by omega), o3 _ i1 (by omega), o2 _ i1 (by omega), l1]
    · rw [last _ i3 (by omega) (by omega) (by omega), o6 _ i3 (by omega), o5 _ i3 (by omega), o4 _ i3 (by omega), o3 _ i3 (by omega), l2]
    · rw [last _ i5 (by omega) (by omega) (by omega), o6 _ i5 (by omega), o5 _ i5 (by omega), o4 _ i5 (by omega), l3]
    · rw [last _ i7 (by omega) (by omega) (by omega), o6 _ i7 (by omega), o5 _ i7 (by omega), l4]
    · rw [last _ i9 (by omega) (by omega) (by omega), o6 _ i9 (by omega), l5]
    · rw [last _ i11 (by omega) (by omega) (by omega), l6]
    · rw [o13 _ i30 (by omega), o12 _ i30 (by omega), l11]
    · rw [o13 _ i32' (by omega), l12]
    · exact l13
  · rw [f13, f12, f11, f10, if_neg (by omega), f9, if_neg (by omega), f8, if_neg (by omega), f7, if_pos rfl]
  · rw [f13, f12, f11, f10, if_neg (by omega), f9, if_neg (by omega), f8, if_pos rfl]
  · rw [f13, f12, f11, f10, if_neg (by omega), f9, if_pos rfl]
  · rw [f13, f12, f11, f10, if_pos rfl]
end CL
end
section
/-! The reference's trees, exactly: node, job, join, list, numberOf. -/
section NDX
variable {G : mG} {d a N g T : Nat} {M M1 M2 : mM}
/-- same trees, with their places -/
def sameX (M2 M3 : mM) (g : Nat) : Prop := sameT M2 M3 g ∧ ∀ n, pm M3 g n = pm M2 g n
theorem sameX.trans {M1 M2 M3 : mM} (h : sameX M1 M2 g) (k : sameX M2 M3 g) : sameX M1 M3 g := ⟨h.1.trans k.1, fun n => (k.2 n).trans (h.2 n)⟩
def jnX (M2 : mM) (g T : Nat) (p : Int) (x : Nat) (M3 : mM) : Prop := jnQ M2 g T p x M3 ∧ ∀ n, pm M3 g n = pm M2 g n
theorem x_MM_node {s : Int} {wd fr : Nat} (hs : i32 s) (hO : mOk M) (h : Wx M a N) (hw : wd < N) (hf : fr < N) (hg : g = a + 13 ∨ g = a + 49) (hd : mR M a 10 = g) (hn : nd M g T) (hT : T ≤ 32768) : Ci G y_MM_node (d + 2) [vr a, vi s, vi wd, vi fr] M (fun r M' => Mv (tL g) (fun _ => False) M a M' ∧ r = T ∧ nd M' g (T + 1) ∧ (∀ n, n < T → so M' g n = so M g n ∧ va M' g n = va M g n ∧ fp M' g n = fp M g n ∧ np M' g n = np M g n) ∧ so M' g T = s ∧ va M' g T = 0 ∧ fp M' g T = -1 ∧ np M' g T = -1 ∧ pm M' g T = nt M (a + 7) wd ∧ ∀ n, n < T → pm M' g n = pm M g n) := by
  have hwd := h.1.1
  have hN := h.1.2.2
  have hi : ∀ q, tL g q → q ∈ nums a := fun q hq => tL_in hg hq
  have hlt : ∀ (M2 : mM), Wd M2 a → ∀ q, tL g q → q < mZ M2 := fun M2 w q hq => w.lt (hi q hq)
  have sub : ∀ (M2 M3 : mM) (q : Nat) (v : Int), tL g q → Wd M2 a → adQ M2 q v M3 → Mv (tL g) (fun _ => False) M2 a M3 := fun M2 M3 q v hq w t => (mv_add w (hi q hq) t).mono (fun x hx => by rw [hx]; exact hq) (fun x hx => hx) (hlt M2 w)
  have oth : ∀ (M2 M3 : mM) (q r : Nat) (v : Int), tL g q → tL g r → r ≠ q → Wd M2 a → adQ M2 q v M3 → sameN M2 M3 r := fun M2 M3 q r v hq hr hne w t => (mv_add w (hi q hq) t).lst (hi r hr) hne
  have g1 : tL g (g + 1) := tLk1 g
  have g3 : tL g (g + 3) := tLk3 g
  have g5 : tL g (g + 5) := tLk5 g
  have g7 : tL g (g + 7) := tLk7 g
  have g9 : tL g (g + 9) := tLk9 g
  have g11 : tL g (g + 11) := tLk11 g
  have gr : ∀ (M2 : mM), Wd M2 a → mK M2 g = 16 ∧ mR M2 g 0 = g + 1 ∧ mR M2 g 1 = g + 3 ∧ mR M2 g 2 = g + 5 ∧ mR M2 g 3 = g + 7 ∧ mR M2 g 4 = g + 9 ∧ mR M2 g 5 = g + 11 := fun M2 w => by
    have k := w.gp hg
    exact ⟨k.1, k.2.1.1, k.2.1.2.1, k.2.1.2.2.1, k.2.1.2.2.2.1, k.2.1.2.2.2.2.1, k.2.1.2.2.2.2.2.1⟩
  refine k_MM_node hO hs (i32s (by omega) (by omega)) (i32s (by omega) (by omega)) ?_
  rw [hd, (gr M hwd).2.1]
  refine ⟨hwd.1.1, (gr M hwd).1, (hwd.nu (hi _ g1)).1, (s_MN_add hs hO (hwd.nu (hi _ g1)) (by rw [hn _ g1]; omega)).mono (fun M1 t1 => ?_)⟩
  have m1 := sub M M1 _ _ g1 hwd t1
  have w1 := m1.2.1
  have d1 : mR M1 a 10 = g := by rw [m1.rfl_a hwd hi]; exact hd
  have x1 := h.mv m1 hi (tL_no hg hwd).1 (tL_no hg hwd).2.1 (tL_no hg hwd).2.2.1 (tL_no hg hwd).2.2.2.1
  rw [d1, (gr M1 w1).2.2.1]
  refine ⟨m1.1, w1.1.1, (gr M1 w1).1, (s_MM_place0 (d := d) m1.1 x1 hw).mono (fun y M2 h2 => ?_)⟩
  obtain ⟨e2, hy⟩ := h2
  subst e2
  have hy32 : i32 y := by rw [hy]; exact (m1.1 _ _).1
  have s13 := oth M M2 _ (g + 3) _ g1 g3 (by omega) hwd t1
  refine ⟨hy32, m1.1, (w1.nu (hi _ g3)).1, (s_MN_add hy32 m1.1 (w1.nu (hi _ g3)) (by rw [s13.1, hn _ g3]; omega)).mono (fun M3 t3 => ?_)⟩
  have m3 := sub M2 M3 _ _ g3 w1 t3
  have w3 := m3.2.1
  have d3 : mR M3 a 10 = g := by rw [m3.rfl_a w1 hi]; exact d1
  have x3 := x1.mv m3 hi (tL_no hg w1).1 (tL_no hg w1).2.1 (tL_no hg w1).2.2.1 (tL_no hg w1).2.2.2.1
  rw [d3, (gr M3 w3).2.2.2.1]
  refine ⟨m3.1, w3.1.1, (gr M3 w3).1, (s_MM_place0 (d := d) m3.1 x3 hf).mono (fun z M4 h4 => ?_)⟩
  obtain ⟨e4, hz⟩ := h4
  subst e4
  have hz32 : i32 z := by rw [hz]; exact (m3.1 _ _).1
  have s15 := oth M M2 _ (g + 5) _ g1 g5 (by omega) hwd t1
  have s35 := oth M2 M4 _ (g + 5) _ g3 g5 (by omega) w1 t3
  refine ⟨hz32, m3.1, (w3.nu (hi _ g5)).1, (s_MN_add hz32 m3.1 (w3.nu (hi _ g5)) (by rw [s35.1, s15.1, hn _ g5]; omega)).mono (fun M5 t5 => ?_)⟩
  have m5 := sub M4 M5 _ _ g5 w3 t5
  have w5 := m5.2.1
  have d5 : mR M5 a 10 = g := by rw [m5.rfl_a w3 hi]; exact d3
  have s17 := oth M M2 _ (g + 7) _ g1 g7 (by omega) hwd t1
  have s37 := oth M2 M4 _ (g + 7) _ g3 g7 (by omega) w1 t3
  have s57 := oth M4 M5 _ (g + 7) _ g5 g7 (by omega) w3 t5
  have l57 : ln M5 (g + 7) = T := by rw [s57.1, s37.1, s17.1]; exact hn _ g7
  rw [d5, (gr M5 w5).2.2.2.2.1]
  refine ⟨m5.1, w5.1.1, (gr M5 w5).1, (w5.nu (hi _ g7)).1, (s_MN_add (i32s (by omega) (by omega)) m5.1 (w5.nu (hi _ g7)) (by omega)).mono (fun M7 t7 => ?_)⟩
  have m7 := sub M5 M7 _ _ g7 w5 t7
  have w7 := m7.2.1
  have d7 : mR M7 a 10 = g := by rw [m7.rfl_a w5 hi]; exact d5
  have s19 := oth M M2 _ (g + 9) _ g1 g9 (by omega) hwd t1
  have s39 := oth M2 M4 _ (g + 9) _ g3 g9 (by omega) w1 t3
  have s59 := oth M4 M5 _ (g + 9) _ g5 g9 (by omega) w3 t5
  have s79 := oth M5 M7 _ (g + 9) _ g7 g9 (by omega) w5 t7
  have k79 := ((s19.trans s39).trans s59).trans s79
  have l79 : ln M7 (g + 9) = T := by rw [k79.1]; exact hn _ g9
  rw [d7, (gr M7 w7).2.2.2.2.2.1]
  refine ⟨m7.1, w7.1.1, (gr M7 w7).1, (w7.nu (hi _ g9)).1, (s_MN_add (i32s (by omega) (by omega)) m7.1 (w7.nu (hi _ g9)) (by omega)).mono (fun M8 t8 => ?_)⟩
  have m8 := sub M7 M8 _ _ g9 w7 t8
  have w8 := m8.2.1
  have d8 : mR M8 a 10 = g := by rw [m8.rfl_a w7 hi]; exact d7
  have s1b := oth M M2 _ (g + 11) _ g1 g11 (by omega) hwd t1
  have s3b := oth M2 M4 _ (g + 11) _ g3 g11 (by omega) w1 t3
  have s5b := oth M4 M5 _ (g + 11) _ g5 g11 (by omega) w3 t5
  have s7b := oth M5 M7 _ (g + 11) _ g7 g11 (by omega) w5 t7
  have s8b := oth M7 M8 _ (g + 11) _ g9 g11 (by omega) w7 t8
  have k8b := (((s1b.trans s3b).trans s5b).trans s7b).trans s8b
  have l8b : ln M8 (g + 11) = T := by rw [k8b.1]; exact hn _ g11
  rw [d8, (gr M8 w8).2.2.2.2.2.2]
  refine ⟨m8.1, w8.1.1, (gr M8 w8).1, (w8.nu (hi _ g11)).1, (s_MN_add (i32s (by omega) (by omega)) m8.1 (w8.nu (hi _ g11)) (by omega)).mono (fun M9 t9 => ?_)⟩
  have m9 := sub M8 M9 _ _ g11 w8 t9
  have w9 := m9.2.1
  have d9 : mR M9 a 10 = g := by rw [m9.rfl_a w8 hi]; exact d8
  rw [d9, (gr M9 w9).2.1]
  -- what each list holds at the end
  have e1 : sameN M2 M9 (g + 1) := ((((oth M2 M4 _ (g + 1) _ g3 g1 (by omega) w1 t3).trans (oth M4 M5 _ (g + 1) _ g5 g1 (by omega) w3 t5)).trans (oth M5 M7 _ (g + 1) _ g7 g1 (by omega) w5 t7)).trans (oth M7 M8 _ (g + 1) _ g9 g1 (by omega) w7 t8)).trans (oth M8 M9 _ (g + 1) _ g11 g1 (by omega) w8 t9)
  have e3 : sameN M4 M9 (g + 3) := (((oth M4 M5 _ (g + 3) _ g5 g3 (by omega) w3 t5).trans (oth M5 M7 _ (g + 3) _ g7 g3 (by omega) w5 t7)).trans (oth M7 M8 _ (g + 3) _ g9 g3 (by omega) w7 t8)).trans (oth M8 M9 _ (g + 3) _ g11 g3 (by omega) w8 t9)
  have e5 : sameN M5 M9 (g + 5) := ((oth M5 M7 _ (g + 5) _ g7 g5 (by omega) w5 t7).trans (oth M7 M8 _ (g + 5) _ g9 g5 (by omega) w7 t8)).trans (oth M8 M9 _ (g + 5) _ g11 g5 (by omega) w8 t9)
  have e7 : sameN M7 M9 (g + 7) := (oth M7 M8 _ (g + 7) _ g9 g7 (by omega) w7 t8).trans (oth M8 M9 _ (g + 7) _ g11 g7 (by omega) w8 t9)
  have e9 : sameN M8 M9 (g + 9) := oth M8 M9 _ (g + 9) _ g11 g9 (by omega) w8 t9
  obtain ⟨-, -, -, a1, b1, c1, -⟩ := t1
  obtain ⟨-, -, -, a3, b3, c3, -⟩ := t3
  obtain ⟨-, -, -, a5, b5, c5, -⟩ := t5
  obtain ⟨-, -, -, a7, b7, c7, -⟩ := t7
  obtain ⟨-, -, -, a9, b9, c9, -⟩ := t8
  obtain ⟨-, -, -, ab, bb, cb, -⟩ := t9
  have hl1 : ln M9 (g + 1) = T + 1 := by rw [e1.1, a1, hn _ g1]
  have k7 := (s17.trans s37).trans s57
  have tt : ∀ q, ln M q = T → (ln M q).toNat = T := fun q z => by omega
  have t57 : (ln M5 (g + 7)).toNat = T := by omega
  have t79' : (ln M7 (g + 9)).toNat = T := by omega
  have t8b' : (ln M8 (g + 11)).toNat = T := by omega
  rw [tt _ (hn _ g1)] at c1
  rw [t57] at c7
  rw [t79'] at c9
  rw [t8b'] at cb
  have c3' : nt M4 (g + 3) T = y := by
    have u := c3
    rw [s13.1, hn _ g3, Int.toNat_natCast] at u
    exact u
  have y7 : nt M2 (a + 7) wd = nt M (a + 7) wd := (m1.lst n7 (tL_no hg hwd).2.1).2.1 wd
  refine ⟨m9.1, w9.1.1, (gr M9 w9).1, (w9.nu (hi _ g1)).1, ((((m1.trans m3).trans m5).trans m7).trans m8).trans m9, ?_, fun q hq => ?_, fun n hnT => ⟨?_, ?_, ?_, ?_⟩, ?_, ?_, ?_, cb, ?_, fun n hnT => ?_⟩
  · have : mI M9 (g + 1) 1 = ln M9 (g + 1) := rfl
    omega
  · rcases hq with w | w | w | w | w | w <;> subst w
    · exact hl1
    · rw [e3.1, a3, s13.1, hn _ g3]; rfl
    · rw [e5.1, a5, s35.1, s15.1, hn _ g5]; rfl
    · rw [e7.1, a7, l57]; rfl
    · rw [e9.1, a9, l79]; rfl
    · rw [ab, l8b]; rfl
  · show nt M9 (g + 1) n = _
    rw [e1.2.1, b1 n (by rw [hn _ g1]; omega)]
  · show nt M9 (g + 7) n = _
    rw [e7.2.1, b7 n (by omega), k7.2.1]
  · show nt M9 (g + 9) n = _
    rw [e9.2.1, b9 n (by omega), k79.2.1]
  · show nt M9 (g + 11) n = _
    rw [bb n (by omega), k8b.2.1]
  · show nt M9 (g + 1) T = _
    rw [e1.2.1, c1]
  · show nt M9 (g + 7) T = _
    rw [e7.2.1, c7]
  · show nt M9 (g + 9) T = _
    rw [e9.2.1, c9]
  · show nt M9 (g + 3) T = _
    rw [e3.2.1, c3', hy, y7]
  · show nt M9 (g + 3) n = nt M (g + 3) n
    rw [e3.2.1, b3 n (by rw [s13.1, hn _ g3]; omega), s13.2.1]
theorem x_MM_job {st : List Int} {p i j : Int} (h : TI M a g N T st M2) (hl : st.length ≤ 65000) (hp : i32 p) (hi : i32 i) (hj : i32 j) : Cv G y_MM_job (d + 1) [vr a, vi p, vi i, vi j] M2 (fun M3 => TI M a g N T (j :: i :: p :: st) M3 ∧ sameX M2 M3 g) := by
  have hg := h.2.2.2.2.2
  have push : ∀ (st : List Int) (v : Int) (M4 : mM), TI M a g N T st M4 → st.length ≤ 65010 → i32 v → Cv G y_MN_add d [vr (a + 91), vi v] M4 (fun M5 => TI M a g N T (v :: st) M5 ∧ (∀ q, tL g q → sameN M4 M5 q)) := fun st v M4 h4 hl hv => by
    have w := h4.2.1.1.1
    refine (s_MN_addB (B := 65536) hv h4.1.1 (w.nu n91) (by rw [h4.2.2.2.2.1.1]; omega) (by decide)).mono (fun M5 t => ?_)
    have m5 := mv_addB w n91 (Or.inl rfl) t
    obtain ⟨k1, k2, k3⟩ := h4.wx m5 (fun q hq => Or.inr hq)
    have sm : ∀ q, tL g q → sameN M4 M5 q := fun q hq => m5.lst (tL_in hg hq) (fun z => by rw [z] at hq; exact (tL_no hg w).2.2.2.2 hq)
    exact ⟨⟨k1, k2, k3, fun q hq => by rw [(sm q hq).1]; exact h4.2.2.2.1 q hq, h4.2.2.2.2.1.add t, hg⟩, sm⟩
  have r18 : ∀ (st : List Int) (M4 : mM), TI M a g N T st M4 → mR M4 a 18 = a + 91 ∧ mK M4 a = 14 ∧ mK M4 (a + 91) = 15 ∧ mOk M4 := fun st M4 h4 => by
    have w := h4.2.1.1.1
    exact ⟨w.1.2.2.2.2.1.2.2.2.1, w.1.1, (w.nu n91).1, h4.1.1⟩
  have q0 := r18 _ _ h
  refine k_MM_job q0.2.2.2 hp hi hj ?_
  rw [q0.1]
  refine ⟨q0.2.1, q0.2.2.1, (push st p M2 h (by omega) hp).mono (fun M3 h3 => ?_)⟩
  obtain ⟨h3, s3⟩ := h3
  have q3 := r18 _ _ h3
  rw [q3.1]
  refine ⟨q3.2.2.2, q3.2.1, q3.2.2.1, (push _ i M3 h3 (by rw [List.length_cons]; omega) hi).mono (fun M4 h4 => ?_)⟩
  obtain ⟨h4, s4⟩ := h4
  have q4 := r18 _ _ h4
  rw [q4.1]
  refine ⟨q4.2.2.2, q4.2.1, q4.2.2.1, (push _ j M4 h4 (by simp only [List.length_cons]; omega) hj).mono (fun M5 h5 => ?_)⟩
  obtain ⟨h5, s5⟩ := h5
  have k : ∀ n q, tL g q → nt M5 q n = nt M2 q n := fun n q hq => by rw [(s5 q hq).2.1, (s4 q hq).2.1, (s3 q hq).2.1]
  exact ⟨h5.1.1, h5, fun n => ⟨k n _ (by omega), k n _ (by omega), k n _ (by omega), k n _ (by omega)⟩, fun n => k n _ (by omega)⟩
theorem x_MM_join {st : List Int} {p : Int} {x : Nat} (h : TI M a g N T st M2) (hp : p < T) (hp2 : i32 p) (hx : x ≤ 100000) (hT : T ≤ 100000) (hc : 0 ≤ p → fp M2 g p.toNat = -1 ∨ ∃ f c l : Nat, fp M2 g p.toNat = c ∧ Lk M2 g T f c l) : Cv G y_MM_join (d + 1) [vr a, vi p, vi x] M2 (fun M3 => TI M a g N T st M3 ∧ jnX M2 g T p x M3) := by
  have h0 := h
  obtain ⟨m2, wx, hd, hn, hs, hg⟩ := h
  have w := wx.1.1
  have hO := m2.1
  have gp := w.gp hg
  have g9 : tL g (g + 9) := tLk9 g
  have g11 : tL g (g + 11) := tLk11 g
  have i9 := tL_in (a := a) hg g9
  have i11 := tL_in (a := a) hg g11
  have u9 := w.nu i9
  have u11 := w.nu i11
  have l9 := hn _ g9
  have l11 := hn _ g11
  have c9 : (T : Int) ≤ cp M2 (g + 9) := by rw [← l9]; exact u9.2.2.2.1.2
  have c11 : (T : Int) ≤ cp M2 (g + 11) := by rw [← l11]; exact u11.2.2.2.1.2
  have r4 : mR M2 g 4 = g + 9 := gp.2.1.2.2.2.2.1
  have r5 : mR M2 g 5 = g + 11 := gp.2.1.2.2.2.2.2.1
  -- an entry of a list of the game
  have ent : ∀ (q j : Nat) (M3 : mM), tL g q → M3 = mUI M2 (mR M2 q 0) j x → TI M a g N T st M3 ∧ (∀ k, nt M3 q k = if k = j then (x : Int) else nt M2 q k) ∧ ∀ r, tL g r → r ≠ q → ∀ k, nt M3 r k = nt M2 r k := fun q j M3 hq e3 => by
    obtain ⟨m3, k1, k2, k3⟩ := mv_el (v := (x : Int)) (i32s (by omega) (by omega)) hO w (tL_in hg hq) e3
    obtain ⟨t1, t2, t3⟩ := h0.wx m3 (fun r hr => Or.inl (by rw [hr]; exact hq))
    have sm : ∀ r, r ∈ nums a → r ≠ q → sameN M2 M3 r := fun r hr hne => m3.lst hr hne
    refine ⟨⟨t1, t2, t3, fun r hr => ?_, hs.same (sm _ n91 (fun z => by rw [← z] at hq; exact (tL_no hg w).2.2.2.2 hq)), hg⟩, k2, fun r hr hne k => (sm r (tL_in hg hr) hne).2.1 k⟩
    by_cases z : r = q
    · rw [z, k1]; exact hn q hq
    · rw [(sm r (tL_in hg hr) z).1]; exact hn r hr
  refine k_MM_join hO hp2 (i32s (by omega) (by omega)) ⟨fun p0 => ?_, fun p0 => ⟨h0, ⟨fun n => ⟨rfl, rfl⟩, Or.inl ⟨by omega, fun n => ⟨rfl, rfl⟩⟩⟩, fun n => rfl⟩⟩
  rw [hd, r4]
  have ep : p = ((p.toNat : Nat) : Int) := by omega
  have hat : ∀ {Q : Int → mM → Prop}, (∀ y, y = fp M2 g p.toNat → i32 y → Q y M2) → Ci G y_MN_at d [vr (g + 9), vi p] M2 Q := fun hQ => by
    rw [ep]
    refine (s_MN_at hO u9 (by omega)).mono (fun y M3 h3 => ?_)
    obtain ⟨e3, hy⟩ := h3
    subst e3
    exact hQ y hy (by rw [hy]; exact (hO _ _).1)
  refine ⟨w.1.1, gp.1, u9.1, hat (fun y hy hy32 => ⟨hy32, hO, fun y0 => ?_, fun y0 => ?_⟩)⟩
  · rw [hd, r4]
    refine ⟨w.1.1, gp.1, u9.1, hat (fun z hz hz32 => ⟨hz32, hO, ?_⟩)⟩
    rcases hc p0 with q | ⟨f, c, l, q1, q2⟩
    · omega
    · have hzc : z = ((c : Nat) : Int) := hz.trans q1
      rw [hzc]
      suffices H : ∀ (f c' : Nat), Lk M2 g T f c' l → h_MM_join_45 G d a x c' M2 (fun M3 => TI M a g N T st M3 ∧ jnX M2 g T p x M3) from H f c q2
      intro f'
      induction f' with
      | zero => intro c' hk; exact hk.elim
      | succ f' ih =>
        intro c' hk
        obtain ⟨hk1, hk2⟩ := hk
        have hat2 : ∀ {Q : Int → mM → Prop}, (∀ y, y = np M2 g c' → i32 y → Q y M2) → Ci G y_MN_at d [vr (g + 11), vi c'] M2 Q := fun hQ => by
          refine (s_MN_at hO u11 (by omega)).mono (fun y M3 h3 => ?_)
          obtain ⟨e3, hy⟩ := h3
          subst e3
          exact hQ y hy (by rw [hy]; exact (hO _ _).1)
        refine k_MM_join_45 hO (i32s (by omega) (by omega)) (i32s (by omega) (by omega)) ?_
        rw [hd, r5]
        refine ⟨w.1.1, gp.1, u11.1, hat2 (fun u hu hu32 => ⟨hu32, hO, fun u0 => ?_, fun u0 => ?_⟩)⟩
        · rw [hd, r5]
          refine ⟨w.1.1, gp.1, u11.1, u11.2.1, ⟨by omega, by have : mN M2 (mR M2 (g + 11) 0) = cp M2 (g + 11) := rfl; omega⟩, fun M3 e3 => ?_⟩
          rw [Int.toNat_natCast] at e3
          obtain ⟨k1, k2, k3⟩ := ent (g + 11) c' M3 g11 e3
          have hl : c' = l := by
            rcases hk2 with ⟨z, -⟩ | ⟨y', z, -⟩
            · exact z
            · omega
          refine ⟨k1, ⟨fun n => ⟨k3 _ (by omega) (by omega) n, k3 _ (by omega) (by omega) n⟩, Or.inr (Or.inr ⟨p0, f, c, l, q1, q2, fun n => k3 _ g9 (by omega) n, fun n => ?_⟩)⟩, fun n => k3 _ (by omega) (by omega) n⟩
          rw [← hl]
          exact k2 n
        · rw [hd, r5]
          refine ⟨w.1.1, gp.1, u11.1, hat2 (fun v hv hv32 => ⟨hv32, hO, ?_⟩)⟩
          rcases hk2 with ⟨-, z⟩ | ⟨y', z1, z2⟩
          · omega
          · rw [hv, z1]
            exact ih y' z2
  · rw [hd, r4]
    have hf1 : fp M2 g p.toNat = -1 := by
      rcases hc p0 with q | ⟨f, c, l, q1, q2⟩
      · exact q
      · omega
    refine ⟨w.1.1, gp.1, u9.1, u9.2.1, ⟨by omega, by have : mN M2 (mR M2 (g + 9) 0) = cp M2 (g + 9) := rfl; omega⟩, fun M3 e3 => ?_⟩
    obtain ⟨k1, k2, k3⟩ := ent (g + 9) p.toNat M3 g9 e3
    exact ⟨k1, ⟨fun n => ⟨k3 _ (by omega) (by omega) n, k3 _ (by omega) (by omega) n⟩, Or.inr (Or.inl ⟨p0, hf1, k2, fun n => k3 _ g11 (by omega) n⟩)⟩, fun n => k3 _ (by omega) (by omega) n⟩
theorem x_MM_list {st : List Int} {M2 : mM} {p : Int} {i j : Nat} (hw : Wd M a) (h : TI M a g N T st M2) (hp : i32 p) (hi : 1 ≤ i) (hj : j < N) (hl : st.length + 3 * (j - i) ≤ 60000) (he : Eo (wk M a) 7 i j) : Cv G y_MM_list (d + 2) [vr a, vi p, vi i, vi j] M2 (fun M3 => ∃ rs f, TI M a g N T (flat p rs ++ st) M3 ∧ sameX M2 M3 g ∧ JM (wk M a) f i j rs ∧ rsum rs ≤ j - i) := by
  have hN := h.2.1.1.2.2
  have hO := h.1.1
  have hpr := he.pr
  have hij := hpr.1
  refine k_MM_list hO hp (i32s (by omega) (by omega)) (i32s (by omega) (by omega)) ?_
  -- one part after the other, from the last
  suffices H : ∀ (L e : Nat) (M3 : mM) (s2 : List (Nat × Nat)), e ≤ L → e ≤ j → Eo (wk M a) 7 i e → TI M a g N T (flat p s2 ++ st) M3 → sameX M2 M3 g → (∀ s f, JM (wk M a) f i e s → ∃ f', JM (wk M a) f' i j (s ++ s2)) → (rsum s2 ≤ j - e ∧ s2.length ≤ j - e) → h_MM_list_11 G (d + 1) a p i e 0 ((e : Int) - 1) M3 (fun M3 => ∃ rs f, TI M a g N T (flat p rs ++ st) M3 ∧ sameX M2 M3 g ∧ JM (wk M a) f i j rs ∧ rsum rs ≤ j - i) from
    H j j M2 [] (Nat.le_refl _) (Nat.le_refl _) he h ⟨fun n => ⟨rfl, rfl, rfl, rfl⟩, fun n => rfl⟩ (fun s f q => ⟨f, by rw [List.append_nil]; exact q⟩) (by simp [rsum])
  intro L
  induction L with
  | zero => intro e M3 s2 h1 _ h3; have := h3.pr.1; omega
  | succ L ih =>
    intro e M3 s2 heL hej h7 t3 sT hJ hlen
    have p7 := h7.pr
    -- the last part begins at b
    obtain ⟨b, hb1, hb2, hb3⟩ : ∃ b, i ≤ b ∧ Eo (wk M a) 6 b e ∧ (b = i ∨ (1 ≤ b ∧ i < b - 1 ∧ wk M a (b - 1) = 35 ∧ Eo (wk M a) 7 i (b - 1))) := by
      rcases h7.lst with q | ⟨m, q1, q2, q3⟩
      · exact ⟨i, by omega, q, Or.inl rfl⟩
      · have := q2.pr.1
        exact ⟨m + 1, by omega, q3, Or.inr ⟨by omega, by omega, by rw [show m + 1 - 1 = m by omega]; exact q1, by rw [show m + 1 - 1 = m by omega]; exact q2⟩⟩
    have pb := hb2.pr
    have hbe := pb.1
    have hbl := pb.2.2.2.2.1
    have hnc : Nx (wk M a) 35 b (e - b) := by
      obtain ⟨n, hn⟩ := hb2
      exact ex_nc (by omega) hn
    have hwk3 := t3.wk hw
    have w3 := t3.2.1.1
    have hO3 := t3.1.1
    have hK := w3.1.1.1
    have hlen3 : (flat p s2 ++ st).length ≤ 65000 := by rw [List.length_append, flat_len]; omega
    -- the job for that part
    have hjob : Cv G y_MM_job (d + 1) [vr a, vi p, vi ((b : Int) - 1 + 1), vi e] M3 (fun M4 => mOk M4 ∧ h_MM_list_11 G (d + 1) a p i ((b : Int) - 1) 0 ((b : Int) - 1 + (-1)) M4 (fun M3 => ∃ rs f, TI M a g N T (flat p rs ++ st) M3 ∧ sameX M2 M3 g ∧ JM (wk M a) f i j rs ∧ rsum rs ≤ j - i)) := by
      rw [show (b : Int) - 1 + 1 = (b : Int) by omega]
      refine (x_MM_job (d := d) t3 hlen3 hp (i32s (by omega) (by omega)) (i32s (by omega) (by omega))).mono (fun M4 h4 => ?_)
      obtain ⟨t4, s4⟩ := h4
      refine ⟨t4.1.1, ?_⟩
      have t4' : TI M a g N T (flat p ((b, e) :: s2) ++ st) M4 := t4
      rcases hb3 with z | ⟨z1, z2, z3, z4⟩
      · subst z
        obtain ⟨f', hf'⟩ := hJ [(b, e)] 1 (Or.inl ⟨rfl, hb2⟩)
        exact k_MM_list_11 t4.1.1 hp (i32s (by omega) (by omega)) (i32s (by omega) (by omega)) (i32s (by omega) (by omega)) (i32s (by omega) (by omega)) ⟨i32s (by omega) (by omega), fun _ => ⟨(b, e) :: s2, f', t4', sT.trans s4, hf', by show (e - b) + rsum s2 ≤ _; have := pb.1; omega⟩, fun q => by omega⟩
      · have := ih (b - 1) M4 ((b, e) :: s2) (by have := pb.1; omega) (by have := pb.1; omega) z4 t4' (sT.trans s4) (fun s f q => ?_) ⟨by show (e - b) + rsum s2 ≤ _; have := pb.1; omega, by simp only [List.length_cons]; have := pb.1; omega⟩
        · rw [show (((b - 1 : Nat)) : Int) = (b : Int) - 1 by omega, show (b : Int) - 1 - 1 = (b : Int) - 1 + (-1) by omega] at this
          exact this
        · have k : JM (wk M a) (f + 1) i e (s ++ [(b, e)]) := Or.inr ⟨b - 1, s, z3, z4, by rw [show b - 1 + 1 = b by omega]; exact hb2, by rw [show b - 1 + 1 = b by omega], q⟩
          obtain ⟨f', hf'⟩ := hJ _ _ k
          refine ⟨f', ?_⟩
          rw [List.append_assoc] at hf'
          exact hf'
    -- back to the beginning of that part
    suffices H2 : ∀ (c k : Nat), k = b + c → k ≤ e → h_MM_list_11 G (d + 1) a p i e (dp (wk M a) b (k - b)) ((k : Int) - 1) M3 (fun M3 => ∃ rs f, TI M a g N T (flat p rs ++ st) M3 ∧ sameX M2 M3 g ∧ JM (wk M a) f i j rs ∧ rsum rs ≤ j - i) by
      have := H2 (e - b) e (by have := pb.1; omega) (Nat.le_refl _)
      rw [hbl.1] at this
      exact this
    intro c
    induction c with
    | zero =>
      intro k hk hke
      have ek : k = b := by omega
      subst ek
      rw [show k - k = 0 by omega]
      show h_MM_list_11 G (d + 1) a p i e 0 ((k : Int) - 1) M3 _
      have h36' : h_MM_list_36 G (d + 1) a p i e 0 ((k : Int) - 1) 35 M3 (fun M3 => ∃ rs f, TI M a g N T (flat p rs ++ st) M3 ∧ sameX M2 M3 g ∧ JM (wk M a) f i j rs ∧ rsum rs ≤ j - i) := by
        refine k_MM_list_36 hO3 hp (i32s (by omega) (by omega)) (i32s (by omega) (by omega)) (i32s (by omega) (by omega)) (i32s (by omega) (by omega)) (i32s (by omega) (by omega)) (fun v hv => ?_)
        rw [if_neg (by omega), if_neg (by omega)] at hv
        subst hv
        exact ⟨i32s (by omega) (by omega), fun _ => ⟨hK, hjob⟩, fun q => absurd ⟨rfl, rfl⟩ q⟩
      refine k_MM_list_11 hO3 hp (i32s (by omega) (by omega)) (i32s (by omega) (by omega)) (i32s (by omega) (by omega)) (i32s (by omega) (by omega)) ⟨i32s (by omega) (by omega), fun q => by omega, fun _ => ⟨fun q => ⟨hK, ?_⟩, fun _ => h36'⟩⟩
      rcases hb3 with z | ⟨z1, z2, z3, z4⟩
      · omega
      · rw [show (k : Int) - 1 = ((k - 1 : Nat) : Int) by omega]
        refine (s_MM_word1 (d := d) hO3 w3 (by have := pb.1; omega)).mono (fun x M5 h5 => ?_)
        obtain ⟨e5, hx⟩ := h5
        subst e5
        rw [hwk3, z3] at hx
        subst hx
        rw [show (((k - 1 : Nat)) : Int) = (k : Int) - 1 by omega]
        exact ⟨i32s (by omega) (by omega), hO3, h36'⟩
    | succ c ihc =>
      intro k hk hke
      have nx := ihc (k - 1) (by omega) (by omega)
      have db := dp_b (w := wk M a) (i := b) (k - b)
      have db1 := dp_b (w := wk M a) (i := b) (k - 1 - b)
      have hds : dp (wk M a) b (k - b) = dp (wk M a) b (k - 1 - b) + (if wk M a (k - 1) = 36 then 1 else if wk M a (k - 1) = 37 then -1 else 0) := by
        rw [show k - b = (k - 1 - b) + 1 by omega, dp_s, show b + (k - 1 - b) = k - 1 by omega]
      refine k_MM_list_11 hO3 hp (i32s (by omega) (by omega)) (i32s (by omega) (by omega)) (i32s (by omega) (by omega)) (i32s (by omega) (by omega)) ⟨i32s (by omega) (by omega), fun q => by omega, fun _ => ⟨fun q => ⟨hK, ?_⟩, fun q => by omega⟩⟩
      rw [show (k : Int) - 1 = ((k - 1 : Nat) : Int) by omega]
      refine (s_MM_word1 (d := d) hO3 w3 (by omega)).mono (fun x M5 h5 => ?_)
      obtain ⟨e5, hx⟩ := h5
      subst e5
      rw [hwk3] at hx
      refine ⟨by rw [hx, ← hwk3]; exact wk32 hO3, hO3, k_MM_list_36 hO3 hp (i32s (by omega) (by omega)) (i32s (by omega) (by omega)) (i32s (by omega) (by omega)) (i32s (by omega) (by omega)) (by rw [hx, ← hwk3]; exact wk32 hO3) (fun v hv => ?_)⟩
      have hv' : v = dp (wk M a) b (k - 1 - b) := by
        rw [hx] at hv
        split at hv <;> (try split at hv) <;> split at hds <;> (try split at hds) <;> omega
      have hnk := hnc (k - 1 - b) (by omega)
      rw [show b + (k - 1 - b) = k - 1 by omega] at hnk
      refine ⟨i32s (by omega) (by omega), fun q => absurd (by rw [← hx]; exact q.2) (hnk (by omega)), fun _ => ?_⟩
      rw [hv', show ((k - 1 : Nat) : Int) + (-1) = ((k - 1 : Nat) : Int) - 1 by omega]
      exact nx
theorem x_MM_numberOf {k : Nat} (hO : mOk M) (h : Wx M a N) (hk : k < N) (h2 : wk M a k = 2) : Ci G y_MM_numberOf (d + 2) [vr a, vi k] M (fun x M' => M' = M ∧ (0 ≤ x ∧ x < 1000000000) ∧ x = numq (nt M (mR M a 2)) (nt M (a + 7) k).toNat (nt M (a + 9) k - nt M (a + 7) k).toNat) := by
  have h0 := h
  obtain ⟨⟨w, l, b⟩, l7, l9, wo, hT⟩ := h
  obtain ⟨-, ⟨p1, p2, p3⟩, p4, p5, -⟩ := wo k hk
  obtain ⟨p6, p7⟩ := p5 h2
  have hp := w.tape.2.1
  refine k_MM_numberOf hO (i32s (by omega) (by omega)) ⟨w.1.1, (s_MM_place0 (d := d) hO h0 hk).mono (fun x M1 e1 => ?_)⟩
  obtain ⟨e1, hx⟩ := e1
  subst e1
  have hp9 : i32 x := by rw [hx]; exact (hO _ _).1
  refine ⟨hp9, hO, ?_⟩
  suffices H : ∀ (c t : Nat) (v : Int), (t : Int) + c = nt M1 (a + 9) k - nt M1 (a + 7) k → 0 ≤ v → v < 10 ^ t → v = numq (nt M1 (mR M1 a 2)) (nt M1 (a + 7) k).toNat t → h_MM_numberOf_8 G (d + 1) a k v (nt M1 (a + 7) k + t) M1 (fun x M' => M' = M1 ∧ (0 ≤ x ∧ x < 1000000000) ∧ x = numq (nt M1 (mR M1 a 2)) (nt M1 (a + 7) k).toNat (nt M1 (a + 9) k - nt M1 (a + 7) k).toNat) by
    have := H (nt M1 (a + 9) k - nt M1 (a + 7) k).toNat 0 0 (by omega) (by omega) (by decide) rfl
    rw [hx]
    rw [show nt M1 (a + 7) k + ((0 : Nat) : Int) = nt M1 (a + 7) k by omega] at this
    exact this
  intro c
  induction c with
  | zero =>
    intro t v ht v0 v1 v2
    have hb := ten_pow_le (n := t) (m := 9) (by omega)
    have e9 : (10 : Int) ^ 9 = 1000000000 := by decide
    refine k_MM_numberOf_8 hO (i32s (by omega) (by omega)) ⟨by omega, by omega⟩ (i32s (by omega) (by omega)) ?_
    rw [w.1.2.2.1.2.2.1]
    refine ⟨w.1.1, (w.nu n9).1, (s_MN_at hO (w.nu n9) (by omega)).mono (fun y M2 e2 => ?_)⟩
    obtain ⟨e2, hy⟩ := e2
    subst e2
    exact ⟨by rw [hy]; exact (hO _ _).1, hO, fun _ => ⟨rfl, ⟨v0, by omega⟩, by rw [v2]; congr 1; omega⟩, fun q => by omega⟩
  | succ c ih =>
    intro t v ht v0 v1 v2
    have hb := ten_pow_le (n := t) (m := 8) (by omega)
    have e8 : (10 : Int) ^ 8 = 100000000 := by decide
    have hpw : (10 : Int) ^ (t + 1) = 10 ^ t * 10 := Int.pow_succ _ _
    refine k_MM_numberOf_8 hO (i32s (by omega) (by omega)) ⟨by omega, by omega⟩ (i32s (by omega) (by omega)) ?_
    rw [w.1.2.2.1.2.2.1]
    refine ⟨w.1.1, (w.nu n9).1, (s_MN_at hO (w.nu n9) (by omega)).mono (fun y M2 e2 => ?_)⟩
    obtain ⟨e2, hy⟩ := e2
    subst e2
    refine ⟨by rw [hy]; exact (hO _ _).1, hO, fun q => by omega, fun _ => ⟨w.1.1, (w.nu hp).1, ?_⟩⟩
    have ee : nt M2 (a + 7) k + (t : Int) = (((nt M2 (a + 7) k + (t : Int)).toNat : Nat) : Int) := by omega
    have hd := p7 (nt M2 (a + 7) k + (t : Int)).toNat (by omega) (by omega)
    rw [ee]
    refine (s_MN_at hO (w.nu hp) (by omega)).mono (fun z M3 e3 => ?_)
    obtain ⟨e3, hz⟩ := e3
    subst e3
    refine ⟨by rw [hz]; exact (hO _ _).1, hO, ?_⟩
    have nx := ih (t + 1) (10 * v + z - 48) (by omega) (by omega) (by omega) (by
      show _ = 10 * numq (nt M3 (mR M3 a 2)) (nt M3 (a + 7) k).toNat t + (nt M3 (mR M3 a 2) ((nt M3 (a + 7) k).toNat + t) - 48)
      rw [← v2, hz, show (nt M3 (a + 7) k + (t : Int)).toNat = (nt M3 (a + 7) k).toNat + t by omega]
      omega)
    rw [show nt M3 (a + 7) k + ((t + 1 : Nat) : Int) = (((nt M3 (a + 7) k + (t : Int)).toNat : Nat) : Int) + 1 by omega] at nx
    exact nx
end NDX
end
