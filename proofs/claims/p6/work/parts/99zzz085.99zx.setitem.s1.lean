section
/-! The reference: a branch, its sets and its end. -/
section BR
variable {G : mG} {d a g R W C T2 Z2 N K : Nat} {M M2 M3 : mM} {E : Nat → Nat} {tg : Int}
/-- a number of the command that is being read -/
theorem cI.st {i j : Nat} {v : Int} (h : cI M a g N K R W C E tg T2 Z2 M2) (hv : i32 v) (hi : 22 ≤ i ∧ i ≤ 29) (hj : (i ≤ 25 → C ≤ j) ∧ (26 ≤ i → 8 * C ≤ j)) (f1 : frO (13 + i)) (f2 : frO (49 + i)) (e : M3 = mUI M2 (g + i) j v) : cI M a g N K R W C E tg T2 Z2 M3 ∧ (∀ y k, mI M3 y k = if y = g + i ∧ k = j then v else mI M2 y k) ∧ mI M3 a = mI M2 a ∧ Gn M2 g R W T2 M3 := by
  obtain ⟨L2, I2, g2, z2, D2⟩ := h
  obtain ⟨L3, I3, ⟨g3, a3⟩, m3, f3, l3⟩ := gsti L2 hv (by omega) f1 f2 (fun z => by omega) e
  have hg := L2.2.2.2.2.2.1
  have G3 := ge_st (R := R) (W := W) (C := C) (Z := Z2) (T := T2) hg m3 f3 l3 (by omega) (by omega) (fun z => hj.1 (by omega)) (fun z => hj.2 z)
  exact ⟨⟨L3, I2.trans I3, ⟨g3.trans g2.1, by rw [g3]; exact g2.2.1, by rw [g3]; exact g2.2.2⟩, ⟨by rw [(m3.lst (n30 hg) (fun z => z)).1]; exact z2.1, by rw [(m3.lst (n32 hg) (fun z => z)).1]; exact z2.2.1, by rw [(m3.lst (n34 hg) (fun z => z)).1]; exact z2.2.2⟩, fun z => (D2 (by rw [← a3]; exact z)).ge G3⟩, f3, a3, G3.1⟩
/-- inside a branch: its place is x -/
def bI (M : mM) (a g N K R W C : Nat) (E : Nat → Nat) (tg : Int) (b Z0 T2 Z2 : Nat) (M2 : mM) : Prop := cI M a g N K R W C E tg T2 Z2 M2 ∧ mI M2 (g + 28) (8 * C + b) = (Z0 : Int) ∧ Z0 ≤ Z2 ∧ mI M2 (g + 25) C = (b : Int) ∧ (mI M2 a 16 = 0 → Cc M2 g R W T2 E Z2 C ∧ Rt M2 g R W T2 E (mI M2 (g + 26) (8 * C + b)) 0)
/-- a branch has been read -/
def brQ (M : mM) (a g N K R W C : Nat) (E : Nat → Nat) (tg : Int) (s : Nat) (x : Int) (M3 : mM) : Prop := (0 ≤ x ∧ x ≤ N) ∧ ∃ T3 Z3 : Nat, cI M a g N K R W C E tg T3 Z3 M3 ∧ (mI M3 a 16 = 0 → x = (s : Int) ∧ T3 ≤ s ∧ Z3 ≤ s ∧ Cc M3 g R W T3 E Z3 C)
/-- the branch's end -/
theorem br_end {b Z0 s : Nat} {x : Int} {M4 : mM} (hC : C < 60) (hb : b < 8) (h : bI M a g N K R W C E tg b Z0 T2 Z2 M2) (hx : 0 ≤ x ∧ x ≤ N) (hs : mI M2 a 16 = 0 → x = (s : Int) ∧ T2 ≤ s ∧ Z2 ≤ s) (hZ : Z2 ≤ 16385) (e3 : M3 = mUI M2 (g + 29) (8 * C + b) ((Z2 : Int) - Z0)) (e4 : M4 = mUI M3 (g + 25) C ((b : Int) + 1)) : mOk M4 ∧ brQ M a g N K R W C E tg s x M4 := by
  obtain ⟨c2, q28, hZ0, q25, hc⟩ := h
  obtain ⟨c3, f3, a3, G3⟩ := c2.st (i := 29) (i32s (by omega) (by omega)) (by omega) (by omega) (by decide) (by decide) e3
  obtain ⟨c4, f4, a4, G4⟩ := c3.st (i := 25) (i32s (by omega) (by omega)) (by omega) (by omega) (by decide) (by decide) e4
  refine ⟨c4.1.1, hx, T2, Z2, c4, fun z => ?_⟩
  have z2 : mI M2 a 16 = 0 := by rw [← a3, ← a4]; exact z
  obtain ⟨s1, s2, s3⟩ := hs z2
  obtain ⟨k1, k2⟩ := hc z2
  have G24 := G3.trans G4
  have hR := (c2.2.2.2.2 z2).1.1
  obtain ⟨n1, n2, n3, n4⟩ := k1
  refine ⟨s1, s2, s3, ?_⟩
  have r24 : mI M4 (g + 24) C = mI M2 (g + 24) C := by rw [f4, if_neg (fun z => by omega), f3, if_neg (fun z => by omega)]
  have r25 : mI M4 (g + 25) C = (b : Int) + 1 := by rw [f4, if_pos ⟨rfl, rfl⟩]
  unfold Cc
  rw [r24, r25]
  refine ⟨n1.gn G24 hR, by omega, by omega, fun b' hb' => ?_⟩
  have r26 : mI M4 (g + 26) (8 * C + b') = mI M2 (g + 26) (8 * C + b') := by rw [f4, if_neg (fun z => by omega), f3, if_neg (fun z => by omega)]
  have r28 : mI M4 (g + 28) (8 * C + b') = mI M2 (g + 28) (8 * C + b') := by rw [f4, if_neg (fun z => by omega), f3, if_neg (fun z => by omega)]
  by_cases y : b' = b
  · subst y
    have r29 : mI M4 (g + 29) (8 * C + b') = (Z2 : Int) - Z0 := by rw [f4, if_neg (fun z => by omega), f3, if_pos ⟨rfl, rfl⟩]
    unfold Bc
    rw [r26, r28, r29, q28]
    exact ⟨k2.gn G24 hR, by omega, by omega, by omega⟩
  · have r29 : mI M4 (g + 29) (8 * C + b') = mI M2 (g + 29) (8 * C + b') := by rw [f4, if_neg (fun z => by omega), f3, if_neg (fun z => by omega)]
    exact (n4 b' (by omega)).gn G24 hR ⟨r26, r28, r29⟩
theorem s_br_end {b Z0 s k : Nat} {l8 : Int} (hC : C < 60) (hb : b < 8) (h : bI M a g N K R W C E tg b Z0 T2 Z2 M2) (hk : k ≤ N) (hs : mI M2 a 16 = 0 → k = s ∧ T2 ≤ s ∧ Z2 ≤ s) (hZ : Z2 ≤ 16385) (i8 : i32 l8) (h8 : l8 = 0 ∨ ¬ (mI M2 a 16 = 0)) : h_MM_branch0_128 G (d + 8) a C b (8 * C + b : Nat) k l8 M2 (fun x M3 => i32 x ∧ mOk M3 ∧ brQ M a g N K R W C E tg s x M3) := by
  have L2 := h.1.1
  have hN := L2.2.1.1.2.2
  have hg := L2.2.2.2.2.2.1
  have w2 := L2.2.1.1.1
  have z30 : mI M2 (g + 30) 1 = (Z2 : Int) := h.1.2.2.2.1.1
  have hZ0 := h.2.2.1
  have b480 : ((0 : Int) ≤ ((8 * C + b : Nat) : Int) ∧ ((8 * C + b : Nat) : Int) < ((480 : Nat) : Int)) := by omega
  have b60 : ((0 : Int) ≤ (C : Int) ∧ (C : Int) < ((60 : Nat) : Int)) := by omega
  refine k_MM_branch0_128 L2.1 (i32s (by omega) (by omega)) (i32s (by omega) (by omega)) (i32s (by omega) (by omega)) (i32s (by omega) (by omega)) i8 ⟨fun _ => w2.1.1, fun _ => ⟨w2.1.1, ?_⟩, fun q => absurd h8 q⟩
  rw [show mR M2 a 10 = g from L2.2.2.2.2.1, show mR M2 g 27 = g + 30 from (w2.gp hg).2.2.1.2.2.2.2.2.2.2.2.2.2.2.2.1, show mR M2 g 25 = g + 28 from (w2.gp hg).2.2.1.2.2.2.2.2.2.2.2.2.2.1, show mR M2 g 26 = g + 29 from (w2.gp hg).2.2.1.2.2.2.2.2.2.2.2.2.2.2.1, z30, Int.toNat_natCast, h.2.1]
  refine ⟨(w2.gp hg).1, (w2.nu (n30 hg)).1, (w2.gp hg).2.2.2.2.2.2.2.2.2.2.2.1.1, by rw [(w2.gp hg).2.2.2.2.2.2.2.2.2.2.2.1.2]; exact b480, (w2.gp hg).2.2.2.2.2.2.2.2.2.2.2.2.1, by rw [(w2.gp hg).2.2.2.2.2.2.2.2.2.2.2.2.2]; exact b480, i32s (by omega) (by omega), fun M3 e3 => ?_⟩
  obtain ⟨c3, f3, a3, G3⟩ := h.1.st (i := 29) (i32s (by omega) (by omega)) (by omega) (by omega) (by decide) (by decide) e3
  have L3 := c3.1
  have w3 := L3.2.1.1.1
  rw [show mR M3 a 10 = g from L3.2.2.2.2.1, show mR M3 g 22 = g + 25 from (w3.gp hg).2.2.1.2.2.2.2.2.2.2.1, Int.toNat_natCast]
  refine ⟨(w3.gp hg).1, (w3.gp hg).2.2.2.2.2.2.2.2.1.1, by rw [(w3.gp hg).2.2.2.2.2.2.2.2.1.2]; exact b60, i32s (by omega) (by omega), fun M4 e4 => ?_⟩
  have key := br_end (x := (k : Int)) hC hb h (by omega) (fun z => ⟨by have := hs z; omega, (hs z).2⟩) hZ e3 e4
  exact ⟨i32s (by omega) (by omega), key⟩
end BR
end
section
/-! The reference: branch. -/
section BR2
variable {G : mG} {d a g R W C T2 Z2 N K : Nat} {M M2 M3 : mM} {E : Nat → Nat} {tg : Int}
theorem cc_part {b : Nat} {M4 : mM} {T3 : Nat} (h : Cc M2 g R W T2 E Z2 C) (hR : R ≤ 60) (hT : T2 ≤ T3) (hb : mI M2 (g + 25) C = (b : Int)) (G4 : Gn M2 g R W T2 M4) (c24 : mI M4 (g + 24) C = mI M2 (g + 24) C) (c25 : mI M4 (g + 25) C = mI M2 (g + 25) C) (cb : ∀ b' : Nat, b' < b → mI M4 (g + 26) (8 * C + b') = mI M2 (g + 26) (8 * C + b') ∧ mI M4 (g + 28) (8 * C + b') = mI M2 (g + 28) (8 * C + b') ∧ mI M4 (g + 29) (8 * C + b') = mI M2 (g + 29) (8 * C + b')) : Cc M4 g R W T3 E Z2 C := by
  obtain ⟨h1, h2, h3, h4⟩ := h
  have hE : ∀ r, r < R → E r = E r := fun _ _ => rfl
  refine Cc.up (T := T2) (Z := Z2) ?_ (Nat.le_refl _) (Nat.le_refl _) hT (Nat.le_refl _) hE
  unfold Cc
  rw [c24, c25]
  exact ⟨h1.gn G4 hR, h2, h3, fun b' hb' => (h4 b' hb').gn G4 hR (cb b' (by omega))⟩
/-- after a set, still inside the branch -/
theorem bI.si {b Z0 c Tm T3 Z3 : Nat} (h : bI M a g N K R W C E tg b Z0 T2 Z2 M2) (z2 : mI M2 a 16 = 0) (m : Mv (itP a g) (fun y => y = a) M2 a M3) (c3 : cI M a g N K R W C E tg T3 Z3 M3) (hT : T2 ≤ T3) (hZ : Z2 ≤ Z3) (k : mI M3 a 16 = 0 → Ge M2 g R W (C + 1) Z2 T2 M3) (hb : b < 8) : bI M a g N K R W C E tg b Z0 T3 Z3 M3 := by
  obtain ⟨c2, q28, hZ0, q25, hc⟩ := h
  have hg := c2.1.2.2.2.2.2.1
  have w2 := c2.1.2.1.1.1
  have hin : ∀ q, itP a g q → q ∈ nums a := fun q hq => hq.1
  have s28 := (m.cellL w2 hin (goffx (i := 28) hg (by decide) (by decide)) (by omega)).1
  have s25 := (m.cellL w2 hin (goffx (i := 25) hg (by decide) (by decide)) (by omega)).1
  refine ⟨c3, by rw [s28]; exact q28, by omega, by rw [s25]; exact q25, fun z => ?_⟩
  have G3 := k z
  obtain ⟨k1, k2⟩ := hc z2
  have hR := (c2.2.2.2.2 z2).1.1
  have hE : ∀ r, r < R → E r = E r := fun _ _ => rfl
  have r0 := Nat.le_refl R
  have w0 := Nat.le_refl W
  refine ⟨(k1.gn G3.1 hR (G3.2.2.2.1 C (by omega))).up r0 w0 hT hZ hE, ?_⟩
  rw [((G3.2.2.2.1 C (by omega)).2.2 b hb).1]
  exact (k2.gn G3.1 hR).up r0 w0 hT hE
theorem s_br_sets {b Z0 s : Nat} (hC : C < 60) (hb : b < 8) (hsN : s < N) (hg : g = a + 13 ∨ g = a + 49) : ∀ (f p T2 Z2 : Nat) (M2 : mM), bI M a g N K R W C E tg b Z0 T2 Z2 M2 → mI M2 a 16 = 0 → Se (wk M a) f p s → T2 ≤ p → Z2 ≤ p → h_MM_branch0_128 G (d + 8) a C b (8 * C + b : Nat) p 1 M2 (fun x M3 => i32 x ∧ mOk M3 ∧ brQ M a g N K R W C E tg s x M3) := by
  intro f
  induction f with
  | zero => intro p T2 Z2 M2 _ _ hs; exact hs.elim
  | succ f ih =>
    intro p T2 Z2 M2 h z2 hse hT2 hZ2
    have sgs := hse.sg.1
    obtain ⟨w0, w1, w2', w3, c, he, w4, hnx⟩ := hse
    have L2 := h.1.1
    have hN := L2.2.1.1.2.2
    have w2 := L2.2.1.1.1
    have hlt := he.pr.1
    have hcs : c + 1 ≤ s := by
      rcases hnx with ⟨y, -⟩ | ⟨-, y⟩
      · omega
      · have := y.sg.1; omega
    have wkE := h.1.2.1.wk hg
    have b480 : ((0 : Int) ≤ ((8 * C + b : Nat) : Int) ∧ ((8 * C + b : Nat) : Int) < ((480 : Nat) : Int)) := by omega
    have cN : c < N := by omega
    have c1N : c + 1 < N := by omega
    have tm : c - (p + 4) ≤ c - (p + 4) := Nat.le_refl _
    have hZ16 : Z2 ≤ 16384 := by omega
    have hZ0 := h.2.2.1
    refine k_MM_branch0_128 L2.1 (i32s (by omega) (by omega)) (i32s (by omega) (by omega)) (i32s (by omega) (by omega)) (i32s (by omega) (by omega)) ⟨by decide, by decide⟩ ⟨fun _ => w2.1.1, fun q => ?_, fun _ => ⟨w2.1.1, ?_⟩⟩
    · rcases q with q | q
      · exact absurd q (by decide)
      · exact absurd z2 q
    rw [show mR M2 a 10 = g from L2.2.2.2.2.1, show mR M2 g 25 = g + 28 from (w2.gp hg).2.2.1.2.2.2.2.2.2.2.2.2.2.1, Int.toNat_natCast, h.2.1]
    refine ⟨(w2.gp hg).1, (w2.gp hg).2.2.2.2.2.2.2.2.2.2.2.1.1, by rw [(w2.gp hg).2.2.2.2.2.2.2.2.2.2.2.1.2]; exact b480, ?_⟩
    refine (s_MM_setItem (d := d) h.1 z2 (by rw [wkE]; exact w0) (by rw [wkE]; exact w1) (by rw [wkE]; exact w2') (by rw [wkE]; exact w3) (by rw [wkE]; exact he) (by rw [wkE]; exact w4) cN hT2 hZ16 hZ0 tm).mono (fun x M3 t3 => ?_)
    obtain ⟨ix, o3, hx, m3, T3, Z3, c3, ⟨t1, t2, t3', t4⟩, k3⟩ := t3
    have B3 := h.si (c := c) (Tm := 0) z2 m3 c3 t1 t3' (fun z => (k3 z).2) hb
    have L3 := c3.1
    have w3 := L3.2.1.1.1
    have wkE3 := c3.2.1.wk hg
    have hT3 : T3 ≤ c + 1 := by omega
    have hZ3 : Z3 ≤ c + 1 := by omega
    refine ⟨ix, o3, w3.1.1, ?_⟩
    obtain ⟨y, hy, hyN⟩ : ∃ y : Nat, x = (y : Int) ∧ y + 1 ≤ N := by
      rcases hx with z | z
      · exact ⟨c, z, by omega⟩
      · exact ⟨c + 1, z, by omega⟩
    have k3' : mI M3 a 16 = 0 → y = c + 1 := fun z => by have := (k3 z).1; omega
    clear hx k3 t1 t2 t3' t4 sgs
    subst hy
    refine L3.wd (d := d + 7) (by omega) (fun u hu iu => ⟨iu, L3.1, fun v hv v' hv' => ?_⟩)
    rw [wkE3] at hu
    by_cases z3 : mI M3 a 16 = 0
    · have ey := k3' z3
      subst ey
      rcases hnx with ⟨e1, e2⟩ | ⟨e1, e2⟩
      · rw [if_neg (fun q => e2 (hu.symm.trans q))] at hv
        subst hv
        rw [if_pos rfl] at hv'
        subst hv'
        exact s_br_end hC hb B3 (by omega) (fun _ => by omega) (by omega) ⟨by decide, by decide⟩ (Or.inl rfl)
      · rw [if_pos (hu.trans e1)] at hv
        subst hv
        rw [if_neg (by decide)] at hv'
        subst hv'
        rw [show ((c + 1 : Nat) : Int) + 1 = ((c + 2 : Nat) : Int) by omega]
        exact ih (c + 2) T3 Z3 M3 B3 z3 e2 (by omega) (by omega)
    · have v01 : v = 0 ∨ v = 1 := by split at hv <;> omega
      obtain ⟨k', hk', hkN⟩ : ∃ k' : Nat, v' = (k' : Int) ∧ k' ≤ N := by
        by_cases q : v = 0
        · rw [if_pos q] at hv'; exact ⟨y, hv', by omega⟩
        · rw [if_neg q] at hv'; exact ⟨y + 1, by omega, by omega⟩
      subst hk'
      exact s_br_end hC hb B3 hkN (fun q => absurd q z3) (by omega) (i32s (by omega) (by omega)) (Or.inr z3)
end BR2
end
section
/-! The reference: branch, to its end. -/
section BR3
variable {G : mG} {d a g R W C T2 T3 Z2 N K : Nat} {M M2 M3 : mM} {E : Nat → Nat} {tg : Int}
theorem cI.rl {co t : Int} (h : cI M a g N K R W C E tg T2 Z2 M2) (z2 : mI M2 a 16 = 0) (t1 : T2 ≤ T3) (Rl : rlR co M2 a g N T2 K T3 t M3) : cI M a g N K R W C E tg T3 Z2 M3 ∧ (mI M3 a 16 = 0 → Ge M2 g R W (C + 1) Z2 T2 M3) := by
  obtain ⟨L2, I2, ⟨g2, g6, g12⟩, ⟨z30, z32, z34⟩, D2⟩ := h
  obtain ⟨I3, G3, y30, y32, y34⟩ := rlR.ge (R := R) (W := W) (C := C + 1) (Z := Z2) L2 Rl
  have g3 : mI M3 g = mI M2 g := Rl.2.2.2.1
  exact ⟨⟨Rl.2.1, I2.trans I3, ⟨g3.trans g2, by rw [g3]; exact g6, by rw [g3]; exact g12⟩, ⟨y30.trans z30, y32.trans z32, y34.trans z34⟩, fun z => ((D2 z2).ge ((G3 z).down (Nat.le_refl _) (Nat.le_refl _) (Nat.le_succ _) (Nat.le_refl _) (Nat.le_refl _))).tu t1⟩, G3⟩
/-- a branch's chance, place and first set are put down -/
theorem br_put {b : Nat} {pl : Int} {M4 M5 M6 : mM} (h : cI M a g N K R W C E tg T2 Z2 M2) (z2 : mI M2 a 16 = 0) (hcc : Cc M2 g R W T2 E Z2 C) (hb : mI M2 (g + 25) C = (b : Int)) (hb8 : b < 8) (hZ : Z2 ≤ 16385) (hT2 : T2 ≤ 16385) (t1 : T2 ≤ T3) (ip : i32 pl) (Rl : rlR 0 M2 a g N T2 K T3 0 M3) (e4 : M4 = mUI M3 (g + 26) (8 * C + b) (T2 : Int)) (e5 : M5 = mUI M4 (g + 27) (8 * C + b) pl) (e6 : M6 = mUI M5 (g + 28) (8 * C + b) (Z2 : Int)) : bI M a g N K R W C E tg b Z2 T3 Z2 M6 ∧ (cI M a g N K R W C E tg T3 Z2 M4 ∧ cI M a g N K R W C E tg T3 Z2 M5) ∧ mI M6 a = mI M3 a := by
  obtain ⟨c3, G3⟩ := h.rl z2 t1 Rl
  obtain ⟨c4, f4, a4, G4⟩ := c3.st (i := 26) (i32s (by omega) (by omega)) (by omega) (by omega) (by decide) (by decide) e4
  obtain ⟨c5, f5, a5, G5⟩ := c4.st (i := 27) ip (by omega) (by omega) (by decide) (by decide) e5
  obtain ⟨c6, f6, a6, G6⟩ := c5.st (i := 28) (i32s (by omega) (by omega)) (by omega) (by omega) (by decide) (by decide) e6
  have aI : mI M6 a = mI M3 a := by rw [a6, a5, a4]
  have hg := h.1.2.2.2.2.2.1
  have w2 := h.1.2.1.1.1
  have hin : ∀ q, rlP a g q → q ∈ nums a := fun q hq => rlP_in hg hq
  have cell : ∀ i, i ≤ 29 → frO (13 + i) → frO (49 + i) → mI M3 (g + i) = mI M2 (g + i) := fun i i1 f1 f2 => (Rl.1.cellL w2 hin (goffx hg f1 f2) (by omega)).1
  have n25 : ∀ k, mI M6 (g + 25) k = mI M2 (g + 25) k := fun k => by rw [f6, if_neg (fun z => by omega), f5, if_neg (fun z => by omega), f4, if_neg (fun z => by omega), cell 25 (by omega) (by decide) (by decide)]
  have n24 : ∀ k, mI M6 (g + 24) k = mI M2 (g + 24) k := fun k => by rw [f6, if_neg (fun z => by omega), f5, if_neg (fun z => by omega), f4, if_neg (fun z => by omega), cell 24 (by omega) (by decide) (by decide)]
  have n29 : ∀ k, mI M6 (g + 29) k = mI M2 (g + 29) k := fun k => by rw [f6, if_neg (fun z => by omega), f5, if_neg (fun z => by omega), f4, if_neg (fun z => by omega), cell 29 (by omega) (by decide) (by decide)]
  have n26 : ∀ k, k ≠ 8 * C + b → mI M6 (g + 26) k = mI M2 (g + 26) k := fun k hk => by rw [f6, if_neg (fun z => by omega), f5, if_neg (fun z => by omega), f4, if_neg (fun z => hk z.2), cell 26 (by omega) (by decide) (by decide)]
  have n28 : ∀ k, k ≠ 8 * C + b → mI M6 (g + 28) k = mI M2 (g + 28) k := fun k hk => by rw [f6, if_neg (fun z => hk z.2), f5, if_neg (fun z => by omega), f4, if_neg (fun z => by omega), cell 28 (by omega) (by decide) (by decide)]
  have v26 : mI M6 (g + 26) (8 * C + b) = (T2 : Int) := by rw [f6, if_neg (fun z => by omega), f5, if_neg (fun z => by omega), f4, if_pos ⟨rfl, rfl⟩]
  have v28 : mI M6 (g + 28) (8 * C + b) = (Z2 : Int) := by rw [f6, if_pos ⟨rfl, rfl⟩]
  clear f4 f5 f6 cell
  refine ⟨⟨c6, v28, Nat.le_refl _, by rw [n25]; exact hb, fun z => ?_⟩, ⟨c4, c5⟩, aI⟩
  rw [aI] at z
  have G3 := G3 z
  have G36 := (G4.trans G5).trans G6
  have D2 := h.2.2.2.2 z2
  have hR := D2.1.1
  have G26 : Gn M2 g R W T2 M6 := G3.1.trans ⟨fun n hn => G36.1 n (by omega), G36.2⟩
  refine ⟨cc_part hcc hR t1 hb G26 (n24 C) (n25 C) (fun b' hb' => ⟨n26 _ (by omega), n28 _ (by omega), n29 _⟩), ?_⟩
  rw [v26]
  exact (rl_rt h.1 h.2.2.1.2.1 h.2.2.1.2.2 D2 Rl z).gn G36 hR
theorem s_MM_branch0 {p q s e : Nat} (h : cI M a g N K R W C E tg T2 Z2 M2) (z2 : mI M2 a 16 = 0) (hcc : Cc M2 g R W T2 E Z2 C) (hC : C < 60) (he5 : Eo (wk M a) 5 p q) (w33 : wk M a q = 33) (hss : Ss (wk M a) (q + 1) s) (hsN : s < N) (heN : e < N) (hT2 : T2 ≤ p) (hZ2 : Z2 ≤ p) : Ci G y_MM_branch0 (d + 9) [vr a, vi C, vi p, vi e] M2 (fun x M3 => i32 x ∧ mOk M3 ∧ brQ M a g N K R W C E tg s x M3) := by
  have L2 := h.1
  have hN := L2.2.1.1.2.2
  have hg := L2.2.2.2.2.2.1
  have w2 := L2.2.1.1.1
  have hlt := he5.pr.1
  have hqs := hss.sg.1
  have wkE := h.2.1.wk hg
  obtain ⟨b, hb⟩ : ∃ b : Nat, mI M2 (g + 25) C = (b : Int) := ⟨(mI M2 (g + 25) C).toNat, by have := hcc.2.1; omega⟩
  have hb8 : b ≤ 8 := by have := hcc.2.2.1; omega
  have b60 : ((0 : Int) ≤ (C : Int) ∧ (C : Int) < ((60 : Nat) : Int)) := by omega
  have ie : i32 (e : Int) := i32s (by omega) (by omega)
  have pN : p < N := by omega
  have qN : q < N := by omega
  have q1N : q + 1 < N := by
    rcases hss with ⟨-, y⟩ | ⟨-, f, y⟩
    · omega
    · cases f with
      | zero => exact y.elim
      | succ f =>
        obtain ⟨-, -, -, -, c, y1, -, y2⟩ := y
        have := y1.pr.1
        rcases y2 with ⟨y2, -⟩ | ⟨-, y2⟩
        · omega
        · have := y2.sg.1; omega
  refine k_MM_branch0 L2.1 (i32s (by omega) (by omega)) (i32s (by omega) (by omega)) ie ?_
  rw [show mR M2 a 10 = g from L2.2.2.2.2.1, show mR M2 g 22 = g + 25 from (w2.gp hg).2.2.1.2.2.2.2.2.2.2.1, Int.toNat_natCast, hb]
  refine ⟨w2.1.1, (w2.gp hg).1, (w2.gp hg).2.2.2.2.2.2.2.2.1.1, by rw [(w2.gp hg).2.2.2.2.2.2.2.2.1.2]; exact b60, fun _ => ?_, fun q8 => ?_⟩
  · refine (s_MM_place0 (d := d + 7) L2.1 L2.2.1 pN).mono (fun y M5 h5 => ?_)
    obtain ⟨e5, hy⟩ := h5
    subst e5
    have hy32 : i32 y := by rw [hy]; exact (L2.1 _ _).1
    refine ⟨hy32, L2.1, w2.1.1, (s_MM_stop ⟨by decide, by decide⟩ hy32 L2.1 w2).mono (fun M6 h6 => ⟨h6.1.1, ie, h6.1.1, by omega, ?_⟩)⟩
    obtain ⟨-, -, T3, Z3, c3, -, -⟩ := si_stop (c := 0) (Tm := 0) h (by decide) h6
    exact ⟨T3, Z3, c3, fun z => by rw [h6.2.1] at z; exact absurd z (by decide)⟩
  · have hb7 : b < 8 := by omega
    have e8 : 8 * (C : Int) + (b : Int) = ((8 * C + b : Nat) : Int) := by omega
    have b480 : ((0 : Int) ≤ ((8 * C + b : Nat) : Int) ∧ ((8 * C + b : Nat) : Int) < ((480 : Nat) : Int)) := by omega
    rw [e8]
    refine L2.ub (d := d + 6) (by omega) (by rw [wkE]; exact he5.pr.2.2.2.2.1) qN (by rw [wkE]; exact w33) (Or.inr (Or.inr rfl)) ⟨i32s (by omega) (by omega), L2.1, w2.1.1, ?_⟩
    rw [show mR M2 a 10 = g from L2.2.2.2.2.1, show mR M2 g 23 = g + 26 from (w2.gp hg).2.2.1.2.2.2.2.2.2.2.2.1]
    refine ⟨(w2.gp hg).1, (s_MM_rule1 (d := d + 1) (co := 0) (tr := 0) ⟨by decide, by decide⟩ (Or.inl rfl) L2 (by omega) (by rw [wkE]; exact he5.six (by omega)) qN).mono (fun x M3 q3 => ?_)⟩
    obtain ⟨ex, T3, t1, t2, Rl⟩ := q3
    subst ex
    have iT : i32 (T2 : Int) := i32s (by omega) (by omega)
    have hZ16 : Z2 ≤ 16385 := by omega
    have hT16 : T2 ≤ 16385 := by omega
    have hTs : T3 ≤ q := by omega
    have hZs : Z2 ≤ q := by omega
    have iq2 : i32 ((q : Int) + 1 + 1) := i32s (by omega) (by omega)
    have hqi : 0 ≤ (q : Int) + 1 + 1 ∧ (q : Int) + 1 + 1 ≤ N := by omega
    have ib1 : i32 ((b : Int) + 1) := i32s (by omega) (by omega)
    have b60' := b60
    have t1' := Nat.le_of_lt t1
    have iZ0 : i32 ((Z2 : Int) - Z2) := i32s (by omega) (by omega)
    obtain ⟨c3, -⟩ := h.rl z2 t1' Rl
    have L3 := c3.1
    have w3 := L3.2.1.1.1
    clear hqs hlt t2 t1 hN
    refine ⟨iT, L3.1, (w3.gp hg).2.2.2.2.2.2.2.2.2.1.1, by rw [(w3.gp hg).2.2.2.2.2.2.2.2.2.1.2]; exact b480, fun M4 e4 => ?_⟩
    rw [Int.toNat_natCast] at e4
    have P := fun (M5 M6 : mM) (pl : Int) (ip : i32 pl) e5 e6 => br_put (M5 := M5) (M6 := M6) h z2 hcc hb hb7 hZ16 hT16 t1' ip Rl e4 e5 e6
    have c4 := (P _ _ 0 ⟨by decide, by decide⟩ rfl rfl).2.1.1
    have L4 := c4.1
    have w4 := L4.2.1.1.1
    rw [show mR M4 a 10 = g from L4.2.2.2.2.1, show mR M4 g 24 = g + 27 from (w4.gp hg).2.2.1.2.2.2.2.2.2.2.2.2.1]
    refine ⟨w4.1.1, (w4.gp hg).1, (s_MM_place0 (d := d + 7) L4.1 L4.2.1 pN).mono (fun y M5 h5 => ?_)⟩
    obtain ⟨e5, hy⟩ := h5
    subst e5
    have hy32 : i32 y := by rw [hy]; exact (L4.1 _ _).1
    refine ⟨hy32, L4.1, (w4.gp hg).2.2.2.2.2.2.2.2.2.2.1.1, by rw [(w4.gp hg).2.2.2.2.2.2.2.2.2.2.1.2]; exact b480, fun M6 e6 => ?_⟩
    rw [Int.toNat_natCast] at e6
    have c6 := (P M6 _ y hy32 e6 rfl).2.1.2
    have L6 := c6.1
    have w6 := L6.2.1.1.1
    have z30 : mI M6 (g + 30) 1 = (Z2 : Int) := c6.2.2.2.1.1
    rw [show mR M6 a 10 = g from L6.2.2.2.2.1, show mR M6 g 27 = g + 30 from (w6.gp hg).2.2.1.2.2.2.2.2.2.2.2.2.2.2.2.1, show mR M6 g 25 = g + 28 from (w6.gp hg).2.2.1.2.2.2.2.2.2.2.2.2.2.1, z30]
    refine ⟨w6.1.1, (w6.gp hg).1, (w6.nu (n30 hg)).1, (w6.gp hg).2.2.2.2.2.2.2.2.2.2.2.1.1, by rw [(w6.gp hg).2.2.2.2.2.2.2.2.2.2.2.1.2]; exact b480, fun M7 e7 => ?_⟩
    rw [Int.toNat_natCast] at e7
    obtain ⟨B7, -, a7⟩ := P M6 M7 y hy32 e6 e7
    have L7 := B7.1.1
    have w7 := L7.2.1.1.1
    have wkE7 := B7.1.2.1.wk hg
    rw [show (q : Int) + 1 = ((q + 1 : Nat) : Int) by omega]
    refine L7.wd (d := d + 7) q1N (fun u hu iu => ⟨iu, L7.1, fun q10 => ⟨w7.1.1, ?_⟩, fun q10 => ?_⟩)
    · rw [wkE7] at hu
      have es : s = q + 2 := by
        rcases hss with ⟨-, y⟩ | ⟨y, -⟩
        · omega
        · exact absurd (hu.symm.trans q10) y
      have z30' : mI M7 (g + 30) 1 = (Z2 : Int) := B7.1.2.2.2.1.1
      rw [show mR M7 a 10 = g from L7.2.2.2.2.1, show mR M7 g 27 = g + 30 from (w7.gp hg).2.2.1.2.2.2.2.2.2.2.2.2.2.2.2.1, show mR M7 g 25 = g + 28 from (w7.gp hg).2.2.1.2.2.2.2.2.2.2.2.2.2.1, show mR M7 g 26 = g + 29 from (w7.gp hg).2.2.1.2.2.2.2.2.2.2.2.2.2.2.1, z30', Int.toNat_natCast, B7.2.1]
      refine ⟨(w7.gp hg).1, (w7.nu (n30 hg)).1, (w7.gp hg).2.2.2.2.2.2.2.2.2.2.2.1.1, by rw [(w7.gp hg).2.2.2.2.2.2.2.2.2.2.2.1.2]; exact b480, (w7.gp hg).2.2.2.2.2.2.2.2.2.2.2.2.1, by rw [(w7.gp hg).2.2.2.2.2.2.2.2.2.2.2.2.2]; exact b480, iZ0, fun M8 e8 => ?_⟩
      obtain ⟨c8, f8, a8, G8⟩ := B7.1.st (i := 29) iZ0 (by omega) (by omega) (by decide) (by decide) e8
      have L8 := c8.1
      have w8 := L8.2.1.1.1
      rw [show mR M8 a 10 = g from L8.2.2.2.2.1, show mR M8 g 22 = g + 25 from (w8.gp hg).2.2.1.2.2.2.2.2.2.2.1]
      refine ⟨(w8.gp hg).1, (w8.gp hg).2.2.2.2.2.2.2.2.1.1, by rw [(w8.gp hg).2.2.2.2.2.2.2.2.1.2]; exact b60', ib1, fun M9 e9 => ?_⟩
      rw [show ((q + 1 : Nat) : Int) + 1 = (q : Int) + 1 + 1 by omega]
      have key := br_end (x := (q : Int) + 1 + 1) (s := s) hC hb7 B7 hqi (fun _ => by omega) hZ16 e8 e9
      exact ⟨iq2, key⟩
    · rw [wkE7] at hu
      obtain ⟨f, se⟩ : ∃ f, Se (wk M a) f (q + 1) s := by
        rcases hss with ⟨y, -⟩ | ⟨-, y⟩
        · exact absurd (hu.trans y) q10
        · exact y
      by_cases z7 : mI M7 a 16 = 0
      · exact s_br_sets hC hb7 hsN hg f (q + 1) T3 Z2 M7 B7 z7 se (by omega) (by omega)
      · exact s_br_end hC hb7 B7 (by omega) (fun y => absurd y z7) hZ16 ⟨by decide, by decide⟩ (Or.inr z7)
end BR3
end
