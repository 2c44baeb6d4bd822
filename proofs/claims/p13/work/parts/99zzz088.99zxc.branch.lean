/-! The reference: a branch, its sets and its end. -/
section BR
variable {G : mG} {d a g R W C T2 Z2 N K : Nat} {M M2 M3 : mM} {E : Eg9} {tg : Int}
/-- a number of the command that is being read -/
theorem cI.st {i j : Nat} {v : Int} (h : cI M a g N K R W C E tg T2 Z2 M2) (hv : i32 v) (hi : 22 ≤ i ∧ i ≤ 29) (hj : (i ≤ 25 → C ≤ j) ∧ (26 ≤ i → 8 * C ≤ j)) (f1 : frO (13 + i)) (f2 : frO (49 + i)) (e : M3 = mUI M2 (g + i) j v) : cI M a g N K R W C E tg T2 Z2 M3 ∧ (∀ y k, mI M3 y k = if y = g + i ∧ k = j then v else mI M2 y k) ∧ mI M3 a = mI M2 a ∧ Gn M2 g R W T2 M3 := by
  obtain ⟨L2, I2, g2, z2, D2⟩ := h
  obtain ⟨L3, I3, ⟨g3, a3⟩, m3, f3, l3⟩ := gsti L2 hv (by omega) f1 f2 (fun z => by omega) e
  have hg := L2.2.2.2.2.2.1
  have G3 := ge_st (R := R) (W := W) (C := C) (Z := Z2) (T := T2) hg m3 f3 l3 (by omega) (by omega) (fun _ z => hj.1 z) (fun z => hj.2 z)
  exact ⟨⟨L3, I2.trans I3, ⟨g3.trans g2.1, by rw [g3]; exact g2.2.1, by rw [g3]; exact g2.2.2⟩, ⟨by rw [(m3.lst (n30 hg) (fun z => z)).1]; exact z2.1, by rw [(m3.lst (n32 hg) (fun z => z)).1]; exact z2.2.1, by rw [(m3.lst (n34 hg) (fun z => z)).1]; exact z2.2.2⟩, fun z => (D2 (by rw [← a3]; exact z)).ge G3⟩, f3, a3, G3.1⟩
/-- inside a branch: its place is x -/
def bI (M : mM) (a g N K R W C : Nat) (E : Eg9) (tg : Int) (b Z0 T2 Z2 : Nat) (M2 : mM) : Prop := cI M a g N K R W C E tg T2 Z2 M2 ∧ mI M2 (g + 28) (8 * C + b) = (Z0 : Int) ∧ Z0 ≤ Z2 ∧ mI M2 (g + 25) C = (b : Int) ∧ (mI M2 a 16 = 0 → Cc M2 g R W T2 E.1 Z2 C ∧ Rt M2 g R W T2 E.1 (mI M2 (g + 26) (8 * C + b)) 0)
/-- a branch has been read -/
def brQ (M : mM) (a g N K R W C : Nat) (E : Eg9) (tg : Int) (s : Nat) (x : Int) (M3 : mM) : Prop := (0 ≤ x ∧ x ≤ N) ∧ ∃ T3 Z3 : Nat, cI M a g N K R W C E tg T3 Z3 M3 ∧ (mI M3 a 16 = 0 → x = (s : Int) ∧ T3 ≤ s ∧ Z3 ≤ s ∧ Cc M3 g R W T3 E.1 Z3 C)
/-- the branch's end -/
theorem br_end {b Z0 s : Nat} {x : Int} {M4 : mM} (hC : C < 60) (hb : b < 8) (h : bI M a g N K R W C E tg b Z0 T2 Z2 M2) (hx : 0 ≤ x ∧ x ≤ N) (hs : mI M2 a 16 = 0 → x = (s : Int) ∧ T2 ≤ s ∧ Z2 ≤ s) (hZ : Z2 ≤ 16385) (e3 : M3 = mUI M2 (g + 29) (8 * C + b) ((Z2 : Int) - Z0)) (e4 : M4 = mUI M3 (g + 25) C ((b : Int) + 1)) : mOk M4 ∧ brQ M a g N K R W C E tg s x M4 := by
  obtain ⟨c2, q28, hZ0, q25, hc⟩ := h
  obtain ⟨c3, f3, a3, G3⟩ := c2.st (i := 29) (i32s (by omega) (by omega)) (by omega) (by omega) (by decide) (by decide) e3
  obtain ⟨c4, f4, a4, G4⟩ := c3.st (i := 25) (i32s (by omega) (by omega)) (by omega) (by omega) (by decide) (by decide) e4
  refine ⟨c4.1.1, hx, T2, Z2, c4, fun z => ?_⟩
  have z2 : mI M2 a 16 = 0 := by rw [← a3, ← a4]; exact z
  obtain ⟨s1, s2, s3⟩ := hs z2
  obtain ⟨k1, k2⟩ := hc z2
  have G24 := G3.trans G4
  have hR := (c2.2.2.2.2 z2).1.1
  obtain ⟨n1, n2, n3, n4⟩ := k1
  refine ⟨s1, s2, s3, ?_⟩
  have r24 : mI M4 (g + 24) C = mI M2 (g + 24) C := by rw [f4, if_neg (fun z => by omega), f3, if_neg (fun z => by omega)]
  have r25 : mI M4 (g + 25) C = (b : Int) + 1 := by rw [f4, if_pos ⟨rfl, rfl⟩]
  unfold Cc
  rw [r24, r25]
  refine ⟨n1.gn G24 hR, by omega, by omega, fun b' hb' => ?_⟩
  have r26 : mI M4 (g + 26) (8 * C + b') = mI M2 (g + 26) (8 * C + b') := by rw [f4, if_neg (fun z => by omega), f3, if_neg (fun z => by omega)]
  have r28 : mI M4 (g + 28) (8 * C + b') = mI M2 (g + 28) (8 * C + b') := by rw [f4, if_neg (fun z => by omega), f3, if_neg (fun z => by omega)]
  by_cases y : b' = b
  · subst y
    have r29 : mI M4 (g + 29) (8 * C + b') = (Z2 : Int) - Z0 := by rw [f4, if_neg (fun z => by omega), f3, if_pos ⟨rfl, rfl⟩]
    unfold Bc
    rw [r26, r28, r29, q28]
    exact ⟨k2.gn G24 hR, by omega, by omega, by omega⟩
  · have r29 : mI M4 (g + 29) (8 * C + b') = mI M2 (g + 29) (8 * C + b') := by rw [f4, if_neg (fun z => by omega), f3, if_neg (fun z => by omega)]
    exact (n4 b' (by omega)).gn G24 hR ⟨r26, r28, r29⟩
end BR
