/-! The reference: branch. -/
section BR2
variable {G : mG} {d a g R W C T2 Z2 N K : Nat} {M M2 M3 : mM} {E : Eg9} {tg : Int}
theorem cc_part {b : Nat} {M4 : mM} {T3 : Nat} (h : Cc M2 g R W T2 E.1 Z2 C) (hR : R ≤ 60) (hT : T2 ≤ T3) (hb : mI M2 (g + 25) C = (b : Int)) (G4 : Gn M2 g R W T2 M4) (c24 : mI M4 (g + 24) C = mI M2 (g + 24) C) (c25 : mI M4 (g + 25) C = mI M2 (g + 25) C) (cb : ∀ b' : Nat, b' < b → mI M4 (g + 26) (8 * C + b') = mI M2 (g + 26) (8 * C + b') ∧ mI M4 (g + 28) (8 * C + b') = mI M2 (g + 28) (8 * C + b') ∧ mI M4 (g + 29) (8 * C + b') = mI M2 (g + 29) (8 * C + b')) : Cc M4 g R W T3 E.1 Z2 C := by
  obtain ⟨h1, h2, h3, h4⟩ := h
  have hE : ∀ r, r < R → E.1 r = E.1 r := fun _ _ => rfl
  refine Cc.up (T := T2) (Z := Z2) ?_ (Nat.le_refl _) (Nat.le_refl _) hT (Nat.le_refl _) hE
  unfold Cc
  rw [c24, c25]
  exact ⟨h1.gn G4 hR, h2, h3, fun b' hb' => (h4 b' hb').gn G4 hR (cb b' (by omega))⟩
/-- after a set, still inside the branch -/
theorem bI.si {b Z0 c Tm T3 Z3 : Nat} (h : bI M a g N K R W C E tg b Z0 T2 Z2 M2) (z2 : mI M2 a 16 = 0) (m : Mv (itP a g) (fun y => y = a) M2 a M3) (c3 : cI M a g N K R W C E tg T3 Z3 M3) (hT : T2 ≤ T3) (hZ : Z2 ≤ Z3) (k : mI M3 a 16 = 0 → Ge M2 g R W (C + 1) Z2 T2 M3) (hb : b < 8) : bI M a g N K R W C E tg b Z0 T3 Z3 M3 := by
  obtain ⟨c2, q28, hZ0, q25, hc⟩ := h
  have hg := c2.1.2.2.2.2.2.1
  have w2 := c2.1.2.1.1.1
  have hin : ∀ q, itP a g q → q ∈ nums a := fun q hq => hq.1
  have s28 := (m.cellL w2 hin (goffx (i := 28) hg (by decide) (by decide)) (by omega)).1
  have s25 := (m.cellL w2 hin (goffx (i := 25) hg (by decide) (by decide)) (by omega)).1
  refine ⟨c3, by rw [s28]; exact q28, by omega, by rw [s25]; exact q25, fun z => ?_⟩
  have G3 := k z
  obtain ⟨k1, k2⟩ := hc z2
  have hR := (c2.2.2.2.2 z2).1.1
  have hE : ∀ r, r < R → E.1 r = E.1 r := fun _ _ => rfl
  have r0 := Nat.le_refl R
  have w0 := Nat.le_refl W
  refine ⟨(k1.gn G3.1 hR (G3.2.2.2.1 C (by omega))).up r0 w0 hT hZ hE, ?_⟩
  rw [((G3.2.2.2.1 C (by omega)).2.2 b hb).1]
  exact (k2.gn G3.1 hR).up r0 w0 hT hE
end BR2
