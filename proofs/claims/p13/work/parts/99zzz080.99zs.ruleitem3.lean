/-! The reference: ruleItem. -/
section RI3
variable {G : mG} {d a g R W C Z T N K : Nat} {M : mM} {E : Eg9} {tg : Int}
/-- a new rule's numbers are stored -/
def riS (M : mM) (a g N T K R W C Z T' f : Nat) (co v6 x3 : Int) (M6 : mM) : Prop := Lc M6 a g N T' K ∧ iF M a g M6 ∧ mI M6 g = mI M g ∧ (ln M6 (g + 30) = ln M (g + 30) ∧ ln M6 (g + 32) = ln M (g + 32) ∧ ln M6 (g + 34) = ln M (g + 34)) ∧ Ge M g R W C Z T M6 ∧ mI M6 (g + 13) R = v6 ∧ mI M6 (g + 15) R = (T : Int) ∧ tn M6 g R = x3 ∧ ∀ F : Prop, (co = 0 → F) → Ty (nme F M6 g R W) (tn M6 g) M6 g f 0 T T' (fun _ => x3)
theorem ri_a {T' : Nat} {co v6 x3 : Int} {M3 M4 M5 M6 : mM} (h : Df M a g N T K R W C Z E tg) (hR : R < 60) (t1 : T < T') (Rl : rlR co M a g N T K T' x3 M3) (z16 : mI M3 a 16 = 0) (hp : ∀ n, n < T → pm M3 g n = pm M g n) (c6 : v6 = 0 ∨ v6 = 1) (e4 : M4 = mUI M3 (g + 13) R v6) (e5 : M5 = mUI M4 (g + 14) R x3) (e6 : M6 = mUI M5 (g + 15) R (T : Int)) : (∃ f, riS M a g N T K R W C Z T' f co v6 x3 M6) ∧ Lc M4 a g N T' K ∧ Lc M5 a g N T' K := by
  obtain ⟨hL, ⟨g6, g12, g18, g17⟩, -, -, hD⟩ := h
  have hg := hL.2.2.2.2.2.1
  have hBd := hD.1.1
  have hT3 := Rl.2.1.2.2.2.2.2.2.2
  obtain ⟨I3, G3, z30, z32, z34⟩ := rlR.ge (R := R) (W := W) (C := C) (Z := Z) hL Rl
  have G3 := G3 z16 hp
  obtain ⟨-, R2, -, R4, R5, R6⟩ := Rl
  have gI3 : mI M3 g = mI M g := R4
  obtain ⟨f, ty⟩ : ∃ f, Ty (nmr co M g) (tn M g) M3 g f 0 T T' (fun _ => x3) := by
    rcases R6 with y | ⟨-, y, -⟩
    · exact absurd z16 y
    · exact y
  clear R6
  have g63 : mI M3 g 6 ≤ R := by rw [gI3, g6]; omega
  obtain ⟨L4, I4, ⟨gI4, aI4⟩, m4, f4, l4⟩ := gsti R2 (i := 13) (i32s (by omega) (by omega)) (by omega) (by decide) (by decide) (fun _ => g63) e4
  have G4 := ge_st (R := R) (W := W) (C := C) (Z := Z) (T := T') hg m4 f4 l4 (fun _ => Nat.le_refl R) (by omega) (by omega) (by omega)
  obtain ⟨L5, I5, ⟨gI5, aI5⟩, m5, f5, l5⟩ := gsti L4 (i := 14) (i32s (by omega) (by omega)) (by omega) (by decide) (by decide) (fun z => by omega) e5
  have G5 := ge_st (R := R) (W := W) (C := C) (Z := Z) (T := T') hg m5 f5 l5 (fun _ => Nat.le_refl R) (by omega) (by omega) (by omega)
  obtain ⟨L6, I6, ⟨gI6, aI6⟩, m6, f6, l6⟩ := gsti L5 (i := 15) (i32s (by omega) (by omega)) (by omega) (by decide) (by decide) (fun z => by omega) e6
  have G6 := ge_st (R := R) (W := W) (C := C) (Z := Z) (T := T') hg m6 f6 l6 (fun _ => Nat.le_refl R) (by omega) (by omega) (by omega)
  have G36 := (G4.trans G5).trans G6
  have G06 := G3.trans (G36.down (Nat.le_refl _) (Nat.le_refl _) (Nat.le_refl _) (Nat.le_refl _) (Nat.le_of_lt t1))
  have c13 : mI M6 (g + 13) R = v6 := by rw [f6, if_neg (fun z => by omega), f5, if_neg (fun z => by omega), f4, if_pos ⟨rfl, rfl⟩]
  have c14 : mI M6 (g + 14) R = x3 := by rw [f6, if_neg (fun z => by omega), f5, if_pos ⟨rfl, rfl⟩]
  have c15 : mI M6 (g + 15) R = (T : Int) := by rw [f6, if_pos ⟨rfl, rfl⟩]
  have tn6 : tn M6 g R = x3 := by
    unfold tn
    rw [if_neg (show ¬ (100 : Int) ≤ (R : Int) by omega), Int.toNat_natCast, c14]
    split <;> omega
  have gI06 : mI M6 g = mI M g := by rw [gI6, gI5, gI4, gI3]
  have y0 : ∀ {q}, q ∈ nums a → ln M6 q = ln M3 q := fun hq => by rw [(m6.lst hq (fun z => z)).1, (m5.lst hq (fun z => z)).1, (m4.lst hq (fun z => z)).1]
  refine ⟨⟨f, L6, ((I3.trans I4).trans I5).trans I6, gI06, ⟨by rw [y0 (n30 hg), z30], by rw [y0 (n32 hg), z32], by rw [y0 (n34 hg), z34]⟩, G06, c13, c15, tn6, fun F hF => ?_⟩, L4, L5⟩
  clear c13 c14 c15 tn6 y0 f4 f5 f6 m4 m5 m6 L4 L5 L6 I3 I4 I5 I6 l4 l5 l6 G4 G5 G6 G3
  refine (ty.mono (nm' := nme F M6 g R W) (w' := tn M6 g) (fun v hv => ?_)).fr (fun n _ n2 => ⟨(G36.1.1 n n2).1, (G36.1.1 n n2).2.1, (G36.1.1 n n2).2.2.1⟩) (fun n _ n2 => (G36.1.1 n n2).2.2.2.1) (fun z => absurd rfl z)
  unfold nmr at hv
  rw [g6, g12] at hv
  rcases hv with ⟨h1, h2, h3, h4⟩ | ⟨h1, h2, h3, h4⟩
  · have gt := G06.1.tr (r := v.toNat) hBd (by omega)
    rw [show ((v.toNat : Nat) : Int) = v by omega] at gt
    refine ⟨Or.inl ⟨h1, h2, ?_⟩, gt⟩
    by_cases z : co = 0
    · exact Or.inl (hF z)
    · right
      rw [(G06.1.2.1 v.toNat (by omega)).1]
      exact h4 z
  · exact ⟨Or.inr ⟨hF h1, h2, h3⟩, G06.1.tv h2 h3⟩
end RI3
