/-! The reference: branch, to its end. -/
section BR3
variable {G : mG} {d a g R W C T2 T3 Z2 N K : Nat} {M M2 M3 : mM} {E : Eg9} {tg : Int}
theorem cI.rl {co t : Int} (h : cI M a g N K R W C E tg T2 Z2 M2) (z2 : mI M2 a 16 = 0) (t1 : T2 ≤ T3) (Rl : rlR co M2 a g N T2 K T3 t M3) (hp : mI M3 a 16 = 0 → ∀ n, n < T2 → pm M3 g n = pm M2 g n) : cI M a g N K R W C E tg T3 Z2 M3 ∧ (mI M3 a 16 = 0 → Ge M2 g R W (C + 1) Z2 T2 M3) := by
  obtain ⟨L2, I2, ⟨g2, g6, g12⟩, ⟨z30, z32, z34⟩, D2⟩ := h
  obtain ⟨I3, G3, y30, y32, y34⟩ := rlR.ge (R := R) (W := W) (C := C + 1) (Z := Z2) L2 Rl
  have g3 : mI M3 g = mI M2 g := Rl.2.2.2.1
  exact ⟨⟨Rl.2.1, I2.trans I3, ⟨g3.trans g2, by rw [g3]; exact g6, by rw [g3]; exact g12⟩, ⟨y30.trans z30, y32.trans z32, y34.trans z34⟩, fun z => ((D2 z2).ge ((G3 z (hp z)).down (Nat.le_refl _) (Nat.le_refl _) (Nat.le_succ _) (Nat.le_refl _) (Nat.le_refl _))).tu t1⟩, fun z => G3 z (hp z)⟩
/-- a branch's chance, place and first set are put down -/
theorem br_put {b : Nat} {pl : Int} {M4 M5 M6 : mM} (h : cI M a g N K R W C E tg T2 Z2 M2) (z2 : mI M2 a 16 = 0) (hcc : Cc M2 g R W T2 E.1 Z2 C) (hb : mI M2 (g + 25) C = (b : Int)) (hb8 : b < 8) (hZ : Z2 ≤ 16385) (hT2 : T2 ≤ 16385) (t1 : T2 ≤ T3) (ip : i32 pl) (Rl : rlR 0 M2 a g N T2 K T3 0 M3) (hp : mI M3 a 16 = 0 → ∀ n, n < T2 → pm M3 g n = pm M2 g n) (e4 : M4 = mUI M3 (g + 26) (8 * C + b) (T2 : Int)) (e5 : M5 = mUI M4 (g + 27) (8 * C + b) pl) (e6 : M6 = mUI M5 (g + 28) (8 * C + b) (Z2 : Int)) : bI M a g N K R W C E tg b Z2 T3 Z2 M6 ∧ (cI M a g N K R W C E tg T3 Z2 M4 ∧ cI M a g N K R W C E tg T3 Z2 M5) ∧ mI M6 a = mI M3 a := by
  obtain ⟨c3, G3⟩ := h.rl z2 t1 Rl hp
  obtain ⟨c4, f4, a4, G4⟩ := c3.st (i := 26) (i32s (by omega) (by omega)) (by omega) (by omega) (by decide) (by decide) e4
  obtain ⟨c5, f5, a5, G5⟩ := c4.st (i := 27) ip (by omega) (by omega) (by decide) (by decide) e5
  obtain ⟨c6, f6, a6, G6⟩ := c5.st (i := 28) (i32s (by omega) (by omega)) (by omega) (by omega) (by decide) (by decide) e6
  have aI : mI M6 a = mI M3 a := by rw [a6, a5, a4]
  have hg := h.1.2.2.2.2.2.1
  have w2 := h.1.2.1.1.1
  have hin : ∀ q, rlP a g q → q ∈ nums a := fun q hq => rlP_in hg hq
  have cell : ∀ i, i ≤ 29 → frO (13 + i) → frO (49 + i) → mI M3 (g + i) = mI M2 (g + i) := fun i i1 f1 f2 => (Rl.1.cellL w2 hin (goffx hg f1 f2) (by omega)).1
  have n25 : ∀ k, mI M6 (g + 25) k = mI M2 (g + 25) k := fun k => by rw [f6, if_neg (fun z => by omega), f5, if_neg (fun z => by omega), f4, if_neg (fun z => by omega), cell 25 (by omega) (by decide) (by decide)]
  have n24 : ∀ k, mI M6 (g + 24) k = mI M2 (g + 24) k := fun k => by rw [f6, if_neg (fun z => by omega), f5, if_neg (fun z => by omega), f4, if_neg (fun z => by omega), cell 24 (by omega) (by decide) (by decide)]
  have n29 : ∀ k, mI M6 (g + 29) k = mI M2 (g + 29) k := fun k => by rw [f6, if_neg (fun z => by omega), f5, if_neg (fun z => by omega), f4, if_neg (fun z => by omega), cell 29 (by omega) (by decide) (by decide)]
  have n26 : ∀ k, k ≠ 8 * C + b → mI M6 (g + 26) k = mI M2 (g + 26) k := fun k hk => by rw [f6, if_neg (fun z => by omega), f5, if_neg (fun z => by omega), f4, if_neg (fun z => hk z.2), cell 26 (by omega) (by decide) (by decide)]
  have n28 : ∀ k, k ≠ 8 * C + b → mI M6 (g + 28) k = mI M2 (g + 28) k := fun k hk => by rw [f6, if_neg (fun z => hk z.2), f5, if_neg (fun z => by omega), f4, if_neg (fun z => by omega), cell 28 (by omega) (by decide) (by decide)]
  have v26 : mI M6 (g + 26) (8 * C + b) = (T2 : Int) := by rw [f6, if_neg (fun z => by omega), f5, if_neg (fun z => by omega), f4, if_pos ⟨rfl, rfl⟩]
  have v28 : mI M6 (g + 28) (8 * C + b) = (Z2 : Int) := by rw [f6, if_pos ⟨rfl, rfl⟩]
  clear f4 f5 f6 cell
  refine ⟨⟨c6, v28, Nat.le_refl _, by rw [n25]; exact hb, fun z => ?_⟩, ⟨c4, c5⟩, aI⟩
  rw [aI] at z
  have G3 := G3 z
  have G36 := (G4.trans G5).trans G6
  have D2 := h.2.2.2.2 z2
  have hR := D2.1.1
  have G26 : Gn M2 g R W T2 M6 := G3.1.trans ⟨fun n hn => G36.1 n (by omega), G36.2⟩
  refine ⟨cc_part hcc hR t1 hb G26 (n24 C) (n25 C) (fun b' hb' => ⟨n26 _ (by omega), n28 _ (by omega), n29 _⟩), ?_⟩
  rw [v26]
  exact (rl_rt h.1 h.2.2.1.2.1 h.2.2.1.2.2 D2 Rl z (hp z)).gn G36 hR
end BR3
