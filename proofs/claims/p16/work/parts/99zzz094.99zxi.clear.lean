/-! The reference: a game is cleared; items. -/
section CL
variable {G : mG} {d a g N : Nat} {M M2 M3 : mM}
/-- the lists of a game -/
abbrev gL9 (g : Nat) : Nat → Prop := fun x => x = g + 1 ∨ x = g + 3 ∨ x = g + 5 ∨ x = g + 7 ∨ x = g + 9 ∨ x = g + 11 ∨ x = g + 30 ∨ x = g + 32 ∨ x = g + 34
theorem gLk1 (g : Nat) : gL9 g (g + 1) := Or.inl rfl
theorem gLk3 (g : Nat) : gL9 g (g + 3) := Or.inr (Or.inl rfl)
theorem gLk5 (g : Nat) : gL9 g (g + 5) := Or.inr (Or.inr (Or.inl rfl))
theorem gLk7 (g : Nat) : gL9 g (g + 7) := Or.inr (Or.inr (Or.inr (Or.inl rfl)))
theorem gLk9 (g : Nat) : gL9 g (g + 9) := Or.inr (Or.inr (Or.inr (Or.inr (Or.inl rfl))))
theorem gLk11 (g : Nat) : gL9 g (g + 11) := Or.inr (Or.inr (Or.inr (Or.inr (Or.inr (Or.inl rfl)))))
theorem gLk30 (g : Nat) : gL9 g (g + 30) := Or.inr (Or.inr (Or.inr (Or.inr (Or.inr (Or.inr (Or.inl rfl))))))
theorem gLk32 (g : Nat) : gL9 g (g + 32) := Or.inr (Or.inr (Or.inr (Or.inr (Or.inr (Or.inr (Or.inr (Or.inl rfl)))))))
theorem gLk34 (g : Nat) : gL9 g (g + 34) := Or.inr (Or.inr (Or.inr (Or.inr (Or.inr (Or.inr (Or.inr (Or.inr (rfl))))))))
theorem gL9_in {q : Nat} (hg : g = a + 13 ∨ g = a + 49) (h : gL9 g q) : q ∈ nums a := by
  have h' : q = g + 1 ∨ q = g + 3 ∨ q = g + 5 ∨ q = g + 7 ∨ q = g + 9 ∨ q = g + 11 ∨ q = g + 30 ∨ q = g + 32 ∨ q = g + 34 := h
  by_cases z : tL g q
  · exact tL_in hg z
  · have h2 : q = g + 30 ∨ q = g + 32 ∨ q = g + 34 := by
      have z' : ¬ (q = g + 1 ∨ q = g + 3 ∨ q = g + 5 ∨ q = g + 7 ∨ q = g + 9 ∨ q = g + 11) := z
      omega
    rcases h2 with y | y | y <;> rw [y]
    · exact n30 hg
    · exact n32 hg
    · exact n34 hg
/-- a list is emptied -/
theorem clr_l {p : Nat} (hg : g = a + 13 ∨ g = a + 49) (h : Mv (gL9 g) (fun x => x = g) M a M2) (hp : gL9 g p) (e : M3 = mUI M2 p 1 0) : Mv (gL9 g) (fun x => x = g) M a M3 ∧ ln M3 p = 0 ∧ (∀ q, q ∈ nums a → q ≠ p → ln M3 q = ln M2 q) ∧ ∀ i, mI M3 g i = mI M2 g i := by
  have w2 := h.2.1
  have pn := gL9_in hg hp
  have b : 0 ≤ ln M2 p := (w2.nu pn).2.2.2.1.1
  obtain ⟨m3, l3, -, -⟩ := mv_set h.1 w2 pn (v := 0) (by omega) b e
  have a0 := goff0 hg
  refine ⟨h.trans (m3.mono (fun q hq => by rw [hq]; exact hp) (fun _ z => z.elim) (fun q hq => w2.lt (gL9_in hg hq))), l3, fun q hq hne => (m3.lst hq hne).1, fun i => ?_⟩
  rw [e, mI_UI, if_neg (fun z => a0.2.1 (by rw [z.1]; exact pn))]
theorem clr_f {i : Nat} {v : Int} (hv : i32 v) (hg : g = a + 13 ∨ g = a + 49) (h : Mv (gL9 g) (fun x => x = g) M a M2) (e : M3 = mUI M2 g i v) : Mv (gL9 g) (fun x => x = g) M a M3 ∧ (∀ q, q ∈ nums a → ln M3 q = ln M2 q) ∧ ∀ j, mI M3 g j = if j = i then v else mI M2 g j := by
  have w2 := h.2.1
  have a0 := goff0 hg
  obtain ⟨m3, f3, -⟩ := mv_cell hv h.1 w2 (show a ≤ g by omega) ⟨a0.1, a0.2.1, a0.2.2.1⟩ e
  refine ⟨h.trans (m3.mono (fun _ z => z.elim) (fun _ z => z) (fun q hq => w2.lt (gL9_in hg hq))), fun q hq => (m3.lst hq (fun z => z)).1, fun j => ?_⟩
  rw [f3]
  by_cases z : j = i
  · rw [if_pos ⟨rfl, z⟩, if_pos z]
  · rw [if_neg (fun y => z y.2), if_neg z]
/-- a game is empty -/
def clQ (M : mM) (a g : Nat) (M' : mM) : Prop := Mv (gL9 g) (fun x => x = g) M a M' ∧ (∀ q, gL9 g q → ln M' q = 0) ∧ mI M' g 6 = 0 ∧ mI M' g 12 = 0 ∧ mI M' g 17 = -1 ∧ mI M' g 18 = 0
theorem s_MG_clear (hO : mOk M) (w : Wd M a) (hg : g = a + 13 ∨ g = a + 49) : Cv G y_MG_clear (d + 1) [vr g] M (fun M' => mOk M' ∧ clQ M a g M') := by
  have gp : ∀ {Mx : mM}, Wd Mx a → mK Mx g = 16 := fun w => (w.gp hg).1
  have kn : ∀ {Mx : mM} {p : Nat}, Wd Mx a → gL9 g p → mK Mx p = 15 := fun w hp => (w.nu (gL9_in hg hp)).1
  have r0 : ∀ {Mx : mM}, Wd Mx a → mR Mx g 0 = g + 1 := fun w => (w.gp hg).2.1.1
  have r1 : ∀ {Mx : mM}, Wd Mx a → mR Mx g 1 = g + 3 := fun w => (w.gp hg).2.1.2.1
  have r2 : ∀ {Mx : mM}, Wd Mx a → mR Mx g 2 = g + 5 := fun w => (w.gp hg).2.1.2.2.1
  have r3 : ∀ {Mx : mM}, Wd Mx a → mR Mx g 3 = g + 7 := fun w => (w.gp hg).2.1.2.2.2.1
  have r4 : ∀ {Mx : mM}, Wd Mx a → mR Mx g 4 = g + 9 := fun w => (w.gp hg).2.1.2.2.2.2.1
  have r5 : ∀ {Mx : mM}, Wd Mx a → mR Mx g 5 = g + 11 := fun w => (w.gp hg).2.1.2.2.2.2.2.1
  have r27 : ∀ {Mx : mM}, Wd Mx a → mR Mx g 27 = g + 30 := fun w => (w.gp hg).2.2.1.2.2.2.2.2.2.2.2.2.2.2.2.1
  have r28 : ∀ {Mx : mM}, Wd Mx a → mR Mx g 28 = g + 32 := fun w => (w.gp hg).2.2.1.2.2.2.2.2.2.2.2.2.2.2.2.2.1
  have r29 : ∀ {Mx : mM}, Wd Mx a → mR Mx g 29 = g + 34 := fun w => (w.gp hg).2.2.1.2.2.2.2.2.2.2.2.2.2.2.2.2.2
  have i1 : g + 1 ∈ nums a := gL9_in hg (gLk1 g)
  have i3 : g + 3 ∈ nums a := gL9_in hg (gLk3 g)
  have i5 : g + 5 ∈ nums a := gL9_in hg (gLk5 g)
  have i7 : g + 7 ∈ nums a := gL9_in hg (gLk7 g)
  have i9 : g + 9 ∈ nums a := gL9_in hg (gLk9 g)
  have i11 : g + 11 ∈ nums a := gL9_in hg (gLk11 g)
  have i30 := n30 hg
  have i32' := n32 hg
  have i34 := n34 hg
  have m0 : Mv (gL9 g) (fun x => x = g) M a M := Mv.refl hO w (fun q hq => w.lt (gL9_in hg hq))
  refine k_MG_clear hO ?_
  rw [r0 w]
  refine ⟨gp w, kn w (gLk1 g), fun M1 e1 => ?_⟩
  obtain ⟨m1, l1, o1, f1⟩ := clr_l hg m0 (gLk1 g) e1
  rw [r1 m1.2.1]
  refine ⟨kn m1.2.1 (gLk3 g), fun M2 e2 => ?_⟩
  obtain ⟨m2, l2, o2, f2⟩ := clr_l hg m1 (gLk3 g) e2
  rw [r2 m2.2.1]
  refine ⟨kn m2.2.1 (gLk5 g), fun M3 e3 => ?_⟩
  obtain ⟨m3, l3, o3, f3⟩ := clr_l hg m2 (gLk5 g) e3
  rw [r3 m3.2.1]
  refine ⟨kn m3.2.1 (gLk7 g), fun M4 e4 => ?_⟩
  obtain ⟨m4, l4, o4, f4⟩ := clr_l hg m3 (gLk7 g) e4
  rw [r4 m4.2.1]
  refine ⟨kn m4.2.1 (gLk9 g), fun M5 e5 => ?_⟩
  obtain ⟨m5, l5, o5, f5⟩ := clr_l hg m4 (gLk9 g) e5
  rw [r5 m5.2.1]
  refine ⟨kn m5.2.1 (gLk11 g), fun M6 e6 M7 e7 M8 e8 M9 e9 M10 e10 => ?_⟩
  obtain ⟨m6, l6, o6, f6⟩ := clr_l hg m5 (gLk11 g) e6
  obtain ⟨m7, o7, f7⟩ := clr_f (v := 0) ⟨by decide, by decide⟩ hg m6 e7
  obtain ⟨m8, o8, f8⟩ := clr_f (v := 0) ⟨by decide, by decide⟩ hg m7 e8
  obtain ⟨m9, o9, f9⟩ := clr_f (v := -1) ⟨by decide, by decide⟩ hg m8 e9
  obtain ⟨m10, o10, f10⟩ := clr_f (v := 0) ⟨by decide, by decide⟩ hg m9 e10
  rw [r27 m10.2.1]
  refine ⟨kn m10.2.1 (gLk30 g), fun M11 e11 => ?_⟩
  obtain ⟨m11, l11, o11, f11⟩ := clr_l hg m10 (gLk30 g) e11
  rw [r28 m11.2.1]
  refine ⟨kn m11.2.1 (gLk32 g), fun M12 e12 => ?_⟩
  obtain ⟨m12, l12, o12, f12⟩ := clr_l hg m11 (gLk32 g) e12
  rw [r29 m12.2.1]
  refine ⟨kn m12.2.1 (gLk34 g), fun M13 e13 => ?_⟩
  obtain ⟨m13, l13, o13, f13⟩ := clr_l hg m12 (gLk34 g) e13
  have last : ∀ q, q ∈ nums a → q ≠ g + 30 → q ≠ g + 32 → q ≠ g + 34 → ln M13 q = ln M6 q := fun q hq h1 h2 h3 => by rw [o13 q hq h3, o12 q hq h2, o11 q hq h1, o10 q hq, o9 q hq, o8 q hq, o7 q hq]
  refine ⟨m13.1, m13, fun q hq => ?_, ?_, ?_, ?_, ?_⟩
  · have h' : q = g + 1 ∨ q = g + 3 ∨ q = g + 5 ∨ q = g + 7 ∨ q = g + 9 ∨ q = g + 11 ∨ q = g + 30 ∨ q = g + 32 ∨ q = g + 34 := hq
    rcases h' with y | y | y | y | y | y | y | y | y <;> rw [y]
    · rw [last _ i1 (by omega) (by omega) (by omega), o6 _ i1 (by omega), o5 _ i1 (by omega), o4 _ i1 (by omega), o3 _ i1 (by omega), o2 _ i1 (by omega), l1]
    · rw [last _ i3 (by omega) (by omega) (by omega), o6 _ i3 (by omega), o5 _ i3 (by omega), o4 _ i3 (by omega), o3 _ i3 (by omega), l2]
    · rw [last _ i5 (by omega) (by omega) (by omega), o6 _ i5 (by omega), o5 _ i5 (by omega), o4 _ i5 (by omega), l3]
    · rw [last _ i7 (by omega) (by omega) (by omega), o6 _ i7 (by omega), o5 _ i7 (by omega), l4]
    · rw [last _ i9 (by omega) (by omega) (by omega), o6 _ i9 (by omega), l5]
    · rw [last _ i11 (by omega) (by omega) (by omega), l6]
    · rw [o13 _ i30 (by omega), o12 _ i30 (by omega), l11]
    · rw [o13 _ i32' (by omega), l12]
    · exact l13
  · rw [f13, f12, f11, f10, if_neg (by omega), f9, if_neg (by omega), f8, if_neg (by omega), f7, if_pos rfl]
  · rw [f13, f12, f11, f10, if_neg (by omega), f9, if_neg (by omega), f8, if_pos rfl]
  · rw [f13, f12, f11, f10, if_neg (by omega), f9, if_pos rfl]
  · rw [f13, f12, f11, f10, if_pos rfl]
end CL
