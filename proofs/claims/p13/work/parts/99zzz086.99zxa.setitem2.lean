/-! The reference: setItem. -/
section SI2
variable {G : mG} {d a g R W C T2 Z2 N K : Nat} {M M2 M3 : mM} {E : Eg9} {tg : Int}
/-- three numbers of a set are put down -/
theorem si_add {c v T3 : Nat} {pl : Int} {Tm : Nat} {M4 M5 M6 : mM} (h : cI M a g N K R W C E tg T2 Z2 M2) (z2 : mI M2 a 16 = 0) (hv : v < W) (t1 : T2 < T3) (t2 : T3 ≤ T2 + Tm) (Rl : rlR 0 M2 a g N T2 K T3 (mI M2 (g + 18) v) M3) (hp : mI M3 a 16 = 0 → ∀ n, n < T2 → pm M3 g n = pm M2 g n) (a4 : adQ M3 (g + 30) v M4) (a5 : adQ M4 (g + 32) pl M5) (a6 : adQ M5 (g + 34) (T2 : Int) M6) : siQ M a g N K R W C E tg c T2 Z2 Tm M2 (c + 1 : Nat) M6 := by
  obtain ⟨L2, I2, ⟨g2, g6, g12⟩, ⟨z30, z32, z34⟩, D2⟩ := h
  have D2 := D2 z2
  have hg := L2.2.2.2.2.2.1
  have w2 := L2.2.1.1.1
  have hR := D2.1.1
  obtain ⟨I3, G3, y30, y32, y34⟩ := rlR.ge (R := R) (W := W) (C := C + 1) (Z := Z2) L2 Rl
  have L3 := Rl.2.1
  have g3 : mI M3 g = mI M2 g := Rl.2.2.2.1
  have m3 : Mv (itP a g) (fun y => y = a) M2 a M3 := Rl.1.mono (fun q hq => rlP_it hg hq) (fun x hx => hx) (itP_lt w2)
  have w3 := L3.2.1.1.1
  have lt3 : ∀ {p : Nat} {Mx : mM}, p = g + 30 ∨ p = g + 32 ∨ p = g + 34 → Wd Mx a → ∀ q, q = p → itP a g q := fun hp _ q hq => by
    refine ⟨?_, by omega⟩
    rw [hq]
    rcases hp with z | z | z <;> rw [z]
    · exact n30 hg
    · exact n32 hg
    · exact n34 hg
  obtain ⟨L4, m4, g4, i4, G4⟩ := gadd (R := R) (W := W) (C := C + 1) (Z := Z2) L3 (Or.inl rfl) (by rw [y30, z30]; omega) a4
  obtain ⟨L5, m5, g5, i5, G5⟩ := gadd (R := R) (W := W) (C := C + 1) (Z := Z2) L4 (Or.inr (Or.inl rfl)) (by rw [(m4.lst (n32 hg) (by omega)).1, y32, z32]; omega) a5
  have e34 : ln M5 (g + 34) = (Z2 : Int) := by rw [(m5.lst (n34 hg) (by omega)).1, (m4.lst (n34 hg) (by omega)).1, y34, z34]
  obtain ⟨L6, m6, g6', i6, G6⟩ := gadd (R := R) (W := W) (C := C + 1) (Z := Z2) L5 (Or.inr (Or.inr rfl)) (by rw [e34]; omega) a6
  have m4' : Mv (itP a g) (fun y => y = a) M3 a M4 := m4.mono (lt3 (Or.inl rfl) w3) (fun _ z => z.elim) (itP_lt w3)
  have m5' : Mv (itP a g) (fun y => y = a) M4 a M5 := m5.mono (lt3 (Or.inr (Or.inl rfl)) w3) (fun _ z => z.elim) (itP_lt m4.2.1)
  have m6' : Mv (itP a g) (fun y => y = a) M5 a M6 := m6.mono (lt3 (Or.inr (Or.inr rfl)) w3) (fun _ z => z.elim) (itP_lt m5.2.1)
  have mm := ((m3.trans m4').trans m5').trans m6'
  have iA : mI M6 a = mI M3 a := by rw [i6, i5, i4]
  have gI : mI M6 g = mI M2 g := by rw [g6', g5, g4, g3]
  have l30 : ln M6 (g + 30) = (Z2 + 1 : Nat) := by rw [(m6.lst (n30 hg) (by omega)).1, (m5.lst (n30 hg) (by omega)).1, a4.2.2.2.1, y30, z30]; omega
  have l32 : ln M6 (g + 32) = (Z2 + 1 : Nat) := by rw [(m6.lst (n32 hg) (by omega)).1, a5.2.2.2.1, (m4.lst (n32 hg) (by omega)).1, y32, z32]; omega
  have l34 : ln M6 (g + 34) = (Z2 + 1 : Nat) := by rw [a6.2.2.2.1, e34]; omega
  have t30 : nt M6 (g + 30) Z2 = (v : Int) := by
    rw [(m6.lst (n30 hg) (by omega)).2.1, (m5.lst (n30 hg) (by omega)).2.1]
    have := a4.2.2.2.2.2.1
    rw [y30, z30, Int.toNat_natCast] at this
    exact this
  have t34 : nt M6 (g + 34) Z2 = (T2 : Int) := by
    have := a6.2.2.2.2.2.1
    rw [e34, Int.toNat_natCast] at this
    exact this
  have If : iF M2 a g M6 := ⟨mm.mono (fun q hq => hq) (fun x hx => Or.inl hx) (itP_lt w2), fun i i1 i2 i3 => by rw [iA]; exact I3.2 i i1 i2 i3⟩
  have G36 := (G4.trans G5).trans G6
  have fin : mI M6 a 16 = 0 → Ge M2 g R W (C + 1) Z2 T2 M6 ∧ Dg M6 g R W C (Z2 + 1) T3 E tg := fun z => by
    rw [iA] at z
    have G3 := G3 z (hp z)
    have G26 := G3.trans (G36.down (Nat.le_refl _) (Nat.le_refl _) (Nat.le_refl _) (Nat.le_refl _) (Nat.le_of_lt t1))
    have D6 := ((D2.ge (G26.down (Nat.le_refl _) (Nat.le_refl _) (Nat.le_succ _) (Nat.le_refl _) (Nat.le_refl _))).tu (Nat.le_of_lt t1))
    have rt := (rl_rt L2 g6 g12 D2 Rl z (hp z)).gn G36.1 hR
    refine ⟨G26, D6.zu ?_⟩
    rw [t30, t34]
    refine ⟨by omega, by omega, ?_⟩
    rw [G26.1.tv (by omega) (by omega)]
    have b01 := (D2.2.2.2.1 v hv).2.2.2.2.2
    have e1 : tn M2 g (100 + (v : Int)) = mI M2 (g + 18) v := by
      unfold tn
      rw [if_pos (show (100 : Int) ≤ 100 + (v : Int) by omega), show (100 + (v : Int) - 100).toNat = v by omega]
      rcases b01 with y | y <;> rw [y] <;> rfl
    rw [e1]
    exact rt
  exact ⟨Or.inr rfl, mm, T3, Z2 + 1, ⟨L6, I2.trans If, ⟨gI.trans g2, by rw [gI]; exact g6, by rw [gI]; exact g12⟩, ⟨l30, l32, l34⟩, fun z => (fin z).2⟩, ⟨Nat.le_of_lt t1, t2, by omega, by omega⟩, fun z => ⟨rfl, (fin z).1⟩⟩
end SI2
