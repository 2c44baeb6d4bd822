section
/-! The reference: the items of a text are read. -/
section ITE
variable {G : mG} {d a g R W C T Z T2 T3 N K : Nat} {M M2 M3 : mM} {E : Nat → Nat} {tg : Int}
/-- the items have been read -/
def itmQ (M : mM) (a g N : Nat) (M' : mM) : Prop := iF M a g M' ∧ (mI M' a 16 ≠ 0 ∨ (mI M' a 16 = 0 ∧ ∃ (T K R W C Z : Nat) (E : Nat → Nat) (tg : Int), Df M' a g N T K R W C Z E tg ∧ T < N ∧ Z < N ∧ 0 ≤ tg))
theorem Df.tgt {M4 : mM} (h : Df M2 a g N T2 K R W C Z E tg) (t1 : T2 < T3) (Rl : rlR 0 M2 a g N T2 K T3 1 M3) (hT3 : T3 ≤ 30000) (e : M4 = mUI M3 g 17 (T2 : Int)) : iF M2 a g M4 ∧ mI M4 a = mI M3 a ∧ mOk M4 ∧ (mI M3 a 16 = 0 → Df M4 a g N T3 K R W C Z E (T2 : Int)) := by
  obtain ⟨hL, ⟨g6, g12, g18, g17⟩, ⟨y30, y32, y34⟩, hK, hD⟩ := h
  obtain ⟨I3, G3, z30, z32, z34⟩ := rlR.ge (R := R) (W := W) (C := C) (Z := Z) hL Rl
  have L3 := Rl.2.1
  have g3 : mI M3 g = mI M2 g := Rl.2.2.2.1
  have hg := L3.2.2.2.2.2.1
  have hB := L3.2.2.2.2.2.2.1
  have w3 := L3.2.1.1.1
  have a0 := goff0 hg
  obtain ⟨m1, f1, l1⟩ := mv_cell (v := (T2 : Int)) (i32s (by omega) (by omega)) L3.1 w3 (show a ≤ g by omega) ⟨a0.1, a0.2.1, a0.2.2.1⟩ e
  have no : ∀ q : Nat, False → q ∈ nums a := fun _ z => z.elim
  have aI1 := (m1.fld w3 no (by omega)).1
  have n17 : ∀ i, i ≠ 17 → mI M4 g i = mI M3 g i := fun i hi => by rw [f1, if_neg (fun z => hi z.2)]
  have x17 : mI M4 g 17 = (T2 : Int) := by rw [f1, if_pos ⟨rfl, rfl⟩]
  have L4 : Lc M4 a g N T3 K := L3.mv m1 no (fun _ z => z.elim) (by rw [n17 6 (by omega)]; omega) (by rw [n17 12 (by omega)]; omega) (by rw [n17 6 (by omega), n17 12 (by omega)]; omega) (fun r _ => by rw [f1, if_neg (fun z => by omega)])
  have s : ∀ {q}, q ∈ nums a → sameN M3 M4 q := fun hq => m1.lst hq (fun z => z)
  refine ⟨I3.trans (iF.mk w3 m1 (fun _ z => z.elim) (fun x z => Or.inr (Or.inl (by omega))) (fun i _ _ _ => by rw [aI1])), aI1, m1.1, fun z => ?_⟩
  have G4 : Ge M3 g R W C Z T3 M4 := ge_mv w3 hg m1 no (fun z => z) (fun z => z) (fun i i1 i2 (z : g + i = g) => by omega) (fun n _ => ⟨(s (tL_in (q := g + 1) hg (by omega))).2.1 n, (s (tL_in (q := g + 7) hg (by omega))).2.1 n, (s (tL_in (q := g + 9) hg (by omega))).2.1 n, (s (tL_in (q := g + 11) hg (by omega))).2.1 n⟩)
  have rt := (rl_rt hL g6 g12 hD Rl z).gn G4.1 hD.1.1
  exact ⟨L4, ⟨by rw [n17 6 (by omega), g3]; exact g6, by rw [n17 12 (by omega), g3]; exact g12, by rw [n17 18 (by omega), g3]; exact g18, x17⟩, ⟨by rw [(s (n30 hg)).1, z30]; exact y30, by rw [(s (n32 hg)).1, z32]; exact y32, by rw [(s (n34 hg)).1, z34]; exact y34⟩, hK, (((hD.ge (G3 z)).tu (Nat.le_of_lt t1)).ge G4).tgu (Or.inr rt)⟩
theorem Lc.ue {k e : Nat} {Q : Int → mM → Prop} (h : Lc M a g N T K) (hi : It (wk M a) k e) (he : e < N) (hQ : Q e M) : Ci G y_MM_until (d + 2) [vr a, vi k, vi 34] M Q := by
  refine (s_until_end (d := d) h.1 h.2.1.1 hi he).mono (fun x M1 e1 => ?_)
  obtain ⟨e1, hx⟩ := e1
  subst e1
  rw [hx]
  exact hQ
theorem s_it_x {k : Int} (ik : i32 k) (w2 : Wd M2 a) (o2 : mOk M2) (hI : iF M a g M2) (z : mI M2 a 16 ≠ 0) : h_MM_items0_38 G (d + 10) a k M2 (fun M' => mOk M' ∧ itmQ M a g N M') :=
  k_MM_items0_38 o2 ik ⟨w2.1.1, fun y => absurd y z, fun _ => ⟨fun y => absurd y z, fun _ => k_MM_items0_218 o2 ⟨o2, hI, Or.inl z⟩, fun y => absurd (Or.inl z) y⟩⟩
theorem s_it_run (hN : N ≤ 16385) (hg : g = a + 13 ∨ g = a + 49) : ∀ (f k : Nat) (M2 : mM), Ac (wk M a) N f [50] k → iF M a g M2 → mI M2 a 16 = 0 → (∃ (T K R W C Z : Nat) (E : Nat → Nat) (tg : Int), Df M2 a g N T K R W C Z E tg ∧ T ≤ k ∧ Z ≤ k) → h_MM_items0_38 G (d + 10) a k M2 (fun M' => mOk M' ∧ itmQ M a g N M') := by
  intro f
  induction f using Nat.strongRecOn with
  | ind f ih =>
    intro k M2 hac hI z2 hDf
    obtain ⟨T, K, R, W, C, Z, E, tg, h, hT, hZ⟩ := hDf
    have hL := h.1
    have w2 := hL.2.1.1.1
    have wkE := hI.wk hg
    have hkN := ac_le hac
    have h17 := h.2.1.2.2.2
    have ik : i32 (k : Int) := i32s (by omega) (by omega)
    -- after an item
    have nxt : ∀ (e g' : Nat) (M3 : mM), g' < f → e < N → Ac (wk M a) N g' [50] (e + 1) → itQ M2 a g N (e + 1) M3 → h_MM_items0_183 G (d + 10) a e M3 (fun M' => mOk M' ∧ itmQ M a g N M') := fun e g' M3 hg' he hac' hq => by
      obtain ⟨I3, hq⟩ := hq
      have I03 := hI.trans I3
      refine k_MM_items0_183 I3.1.1 (i32s (by omega) (by omega)) ?_
      rw [show (e : Int) + 1 = ((e + 1 : Nat) : Int) by omega]
      rcases hq with y | ⟨y1, y2⟩
      · exact s_it_x (i32s (by omega) (by omega)) I3.1.2.1 I3.1.1 I03 y
      · exact ih g' hg' (e + 1) M3 hac' I03 y1 y2
    rcases ac_item hac with ⟨c0, c1⟩ | ⟨c0, e, g', hg', hit, hac'⟩
    · have kN : k < N := by omega
      refine k_MM_items0_38 hL.1 ik ⟨w2.1.1, fun _ => hL.wd (d := d + 9) kN (fun x hx ix => ⟨ix, hL.1, fun _ => ⟨w2.1.1, ?_⟩, fun q => absurd (hx.trans (by rw [wkE]; exact c0)) q⟩), fun y => absurd z2 y⟩
      rw [show mR M2 a 10 = g from hL.2.2.2.2.1, h17]
      refine ⟨fun _ => (w2.gp hg).1, fun q => k_MM_items0_218 hL.1 ⟨hL.1, hI, Or.inr ⟨z2, T, K, R, W, C, Z, E, tg, h, by omega, by omega, ?_⟩⟩, fun _ => ?_⟩
      · rcases q with q | q
        · exact absurd z2 q
        · exact q
      · refine (s_MM_place0 (d := d + 9) hL.1 hL.2.1 kN).mono (fun y M5 h5 => ?_)
        obtain ⟨e5, hy⟩ := h5
        subst e5
        have hy32 : i32 y := by rw [hy]; exact (hL.1 _ _).1
        refine ⟨hy32, hL.1, w2.1.1, (s_MM_stop ⟨by decide, by decide⟩ hy32 hL.1 w2).mono (fun M6 h6 => ⟨h6.1.1, k_MM_items0_218 h6.1.1 ⟨h6.1.1, hI.trans (iF.mk w2 h6.1 (fun _ z => z.elim) (fun x z => Or.inl z) (fun i i1 i2 _ => h6.2.2.2 i i1 i2)), Or.inl (by rw [h6.2.1]; decide)⟩⟩)⟩
    · have he1 := ac_le hac'
      have hke := hit.2.1
      have kN : k < N := by omega
      have eN : e < N := by omega
      refine k_MM_items0_38 hL.1 ik ⟨w2.1.1, fun _ => hL.wd (d := d + 9) kN (fun x hx ix => ⟨ix, hL.1, fun q => ?_, fun _ => ⟨w2.1.1, ?_⟩⟩), fun y => absurd z2 y⟩
      · rw [wkE] at hx
        exact absurd (hx.symm.trans q) c0
      have hit2 : It (wk M2 a) k e := by rw [wkE]; exact hit
      refine hL.ue (d := d + 8) hit2 eN ⟨i32s (by omega) (by omega), hL.1, w2.1.1, hL.wd (d := d + 9) kN (fun x2 hx2 ix2 => ⟨ix2, hL.1, ?_⟩)⟩
      obtain ⟨-, -, hsh⟩ := hit2
      have go : ∀ M3, mOk M3 ∧ itQ M2 a g N (e + 1) M3 → mOk M3 ∧ h_MM_items0_183 G (d + 10) a e M3 (fun M' => mOk M' ∧ itmQ M a g N M') := fun M3 t => ⟨t.1, nxt e g' M3 hg' eN hac' t.2⟩
      refine ⟨fun q1 => ⟨w2.1.1, ?_⟩, fun q1 => ⟨fun q2 => ⟨w2.1.1, ?_⟩, fun q2 => ⟨fun q3 => ⟨w2.1.1, ?_⟩, fun q3 => ⟨w2.1.1, ?_⟩⟩⟩⟩
      · rcases hsh with ⟨y0, -, -, y1⟩ | ⟨y0, -⟩ | ⟨y0, -⟩ | ⟨y0, -⟩
        · exact (s_MM_ruleItem (d := d + 3) h y0 y1 eN hT hZ).mono go
        · omega
        · omega
        · omega
      · rcases hsh with ⟨y0, -⟩ | ⟨y0, -, -, i, y1, y2⟩ | ⟨y0, -⟩ | ⟨y0, -⟩
        · omega
        · exact (s_MM_varItem (d := d + 2) h z2 eN hT hZ y1 y2).mono go
        · omega
        · omega
      · have eo : Eo (wk M2 a) 6 (k + 1) e := by
          rcases hsh with ⟨y0, -⟩ | ⟨y0, -⟩ | ⟨y0, -⟩ | ⟨-, y⟩
          · omega
          · omega
          · omega
          · exact y
        rw [show mR M2 a 10 = g from hL.2.2.2.2.1, h17, show (k : Int) + 1 = ((k + 1 : Nat) : Int) by omega]
        refine ⟨(w2.gp hg).1, fun q4 => ?_, fun q4 => ?_⟩
        · refine (s_MM_rule1 (d := d + 3) (co := 0) (tr := 1) ⟨by decide, by decide⟩ (Or.inr rfl) hL (by omega) eo eN).mono (fun x5 M5 q5 => ?_)
          obtain ⟨ex, T5, t1, t2, Rl⟩ := q5
          subst ex
          have w5 := Rl.2.1.2.1.1.1
          refine ⟨i32s (by omega) (by omega), Rl.2.1.1, (w5.gp hg).1, fun M6 e6 => ?_⟩
          obtain ⟨I6, a6, o6, D6⟩ := h.tgt t1 Rl (by omega) e6
          refine nxt e g' M6 hg' eN hac' ⟨I6, ?_⟩
          by_cases z6 : mI M6 a 16 = 0
          · exact Or.inr ⟨z6, T5, K, R, W, C, Z, E, _, D6 (by rw [← a6]; exact z6), by omega, by omega⟩
          · exact Or.inl z6
        · refine (s_MM_place0 (d := d + 9) hL.1 hL.2.1 kN).mono (fun y M5 h5 => ?_)
          obtain ⟨e5, hy⟩ := h5
          subst e5
          have hy32 : i32 y := by rw [hy]; exact (hL.1 _ _).1
          exact ⟨hy32, hL.1, w2.1.1, (s_MM_stop ⟨by decide, by decide⟩ hy32 hL.1 w2).mono (fun M6 h6 => ⟨h6.1.1, nxt e g' M6 hg' eN hac' (st_it w2 (by decide) h6)⟩)⟩
      · rcases hsh with ⟨y0, -⟩ | ⟨y0, -⟩ | ⟨-, j, f', y1, y2, y3⟩ | ⟨y0, -⟩
        · omega
        · omega
        · exact (s_MM_commandItem (d := d) h z2 y1 y2 y3 eN hT hZ).mono go
        · omega
end ITE
end
section
/-! The reference: a game is cleared; items. -/
section CL
variable {G : mG} {d a g N : Nat} {M M2 M3 : mM}
/-- the lists of a game -/
abbrev gL9 (g : Nat) : Nat → Prop := fun x => x = g + 1 ∨ x = g + 3 ∨ x = g + 5 ∨ x = g + 7 ∨ x = g + 9 ∨ x = g + 11 ∨ x = g + 30 ∨ x = g + 32 ∨ x = g + 34
theorem gL9_in {q : Nat} (hg : g = a + 13 ∨ g = a + 49) (h : gL9 g q) : q ∈ nums a := by
  have h' : q = g + 1 ∨ q = g + 3 ∨ q = g + 5 ∨ q = g + 7 ∨ q = g + 9 ∨ q = g + 11 ∨ q = g + 30 ∨ q = g + 32 ∨ q = g + 34 := h
  by_cases z : tL g q
  · exact tL_in hg z
  · have h2 : q = g + 30 ∨ q = g + 32 ∨ q = g + 34 := by
      have z' : ¬ (q = g + 1 ∨ q = g + 3 ∨ q = g + 5 ∨ q = g + 7 ∨ q = g + 9 ∨ q = g + 11) := z
      omega
    rcases h2 with y | y | y <;> rw [y]
    · exact n30 hg
    · exact n32 hg
    · exact n34 hg
/-- a list is emptied -/
theorem clr_l {p : Nat} (hg : g = a + 13 ∨ g = a + 49) (h : Mv (gL9 g) (fun x => x = g) M a M2) (hp : gL9 g p) (e : M3 = mUI M2 p 1 0) : Mv (gL9 g) (fun x => x = g) M a M3 ∧ ln M3 p = 0 ∧ (∀ q, q ∈ nums a → q ≠ p → ln M3 q = ln M2 q) ∧ ∀ i, mI M3 g i = mI M2 g i := by
  have w2 := h.2.1
  have pn := gL9_in hg hp
  have b : 0 ≤ ln M2 p := (w2.nu pn).2.2.2.1.1
  obtain ⟨m3, l3, -, -⟩ := mv_set h.1 w2 pn (v := 0) (by omega) b e
  have a0 := goff0 hg
  refine ⟨h.trans (m3.mono (fun q hq => by rw [hq]; exact hp) (fun _ z => z.elim) (fun q hq => w2.lt (gL9_in hg hq))), l3, fun q hq hne => (m3.lst hq hne).1, fun i => ?_⟩
  rw [e, mI_UI, if_neg (fun z => a0.2.1 (by rw [z.1]; exact pn))]
theorem clr_f {i : Nat} {v : Int} (hv : i32 v) (hg : g = a + 13 ∨ g = a + 49) (h : Mv (gL9 g) (fun x => x = g) M a M2) (e : M3 = mUI M2 g i v) : Mv (gL9 g) (fun x => x = g) M a M3 ∧ (∀ q, q ∈ nums a → ln M3 q = ln M2 q) ∧ ∀ j, mI M3 g j = if j = i then v else mI M2 g j := by
  have w2 := h.2.1
  have a0 := goff0 hg
  obtain ⟨m3, f3, -⟩ := mv_cell hv h.1 w2 (show a ≤ g by omega) ⟨a0.1, a0.2.1, a0.2.2.1⟩ e
  refine ⟨h.trans (m3.mono (fun _ z => z.elim) (fun _ z => z) (fun q hq => w2.lt (gL9_in hg hq))), fun q hq => (m3.lst hq (fun z => z)).1, fun j => ?_⟩
  rw [f3]
  by_cases z : j = i
  · rw [if_pos ⟨rfl, z⟩, if_pos z]
  · rw [if_neg (fun y => z y.2), if_neg z]
/-- a game is empty -/
def clQ (M : mM) (a g : Nat) (M' : mM) : Prop := Mv (gL9 g) (fun x => x = g) M a M' ∧ (∀ q, gL9 g q → ln M' q = 0) ∧ mI M' g 6 = 0 ∧ mI M' g 12 = 0 ∧ mI M' g 17 = -1 ∧ mI M' g 18 = 0
theorem s_MG_clear (hO : mOk M) (w : Wd M a) (hg : g = a + 13 ∨ g = a + 49) : Cv G y_MG_clear (d + 1) [vr g] M (fun M' => mOk M' ∧ clQ M a g M') := by
  have gp : ∀ {Mx : mM}, Wd Mx a → mK Mx g = 16 := fun w => (w.gp hg).1
  have kn : ∀ {Mx : mM} {p : Nat}, Wd Mx a → gL9 g p → mK Mx p = 15 := fun w hp => (w.nu (gL9_in hg hp)).1
  have r0 : ∀ {Mx : mM}, Wd Mx a → mR Mx g 0 = g + 1 := fun w => (w.gp hg).2.1.1
  have r1 : ∀ {Mx : mM}, Wd Mx a → mR Mx g 1 = g + 3 := fun w => (w.gp hg).2.1.2.1
  have r2 : ∀ {Mx : mM}, Wd Mx a → mR Mx g 2 = g + 5 := fun w => (w.gp hg).2.1.2.2.1
  have r3 : ∀ {Mx : mM}, Wd Mx a → mR Mx g 3 = g + 7 := fun w => (w.gp hg).2.1.2.2.2.1
  have r4 : ∀ {Mx : mM}, Wd Mx a → mR Mx g 4 = g + 9 := fun w => (w.gp hg).2.1.2.2.2.2.1
  have r5 : ∀ {Mx : mM}, Wd Mx a → mR Mx g 5 = g + 11 := fun w => (w.gp hg).2.1.2.2.2.2.2.1
  have r27 : ∀ {Mx : mM}, Wd Mx a → mR Mx g 27 = g + 30 := fun w => (w.gp hg).2.2.1.2.2.2.2.2.2.2.2.2.2.2.2.1
  have r28 : ∀ {Mx : mM}, Wd Mx a → mR Mx g 28 = g + 32 := fun w => (w.gp hg).2.2.1.2.2.2.2.2.2.2.2.2.2.2.2.2.1
  have r29 : ∀ {Mx : mM}, Wd Mx a → mR Mx g 29 = g + 34 := fun w => (w.gp hg).2.2.1.2.2.2.2.2.2.2.2.2.2.2.2.2.2
  have i1 : g + 1 ∈ nums a := gL9_in hg (by omega)
  have i3 : g + 3 ∈ nums a := gL9_in hg (by omega)
  have i5 : g + 5 ∈ nums a := gL9_in hg (by omega)
  have i7 : g + 7 ∈ nums a := gL9_in hg (by omega)
  have i9 : g + 9 ∈ nums a := gL9_in hg (by omega)
  have i11 : g + 11 ∈ nums a := gL9_in hg (by omega)
  have i30 := n30 hg
  have i32' := n32 hg
  have i34 := n34 hg
  have m0 : Mv (gL9 g) (fun x => x = g) M a M := Mv.refl hO w (fun q hq => w.lt (gL9_in hg hq))
  refine k_MG_clear hO ?_
  rw [r0 w]
  refine ⟨gp w, kn w (by omega), fun M1 e1 => ?_⟩
  obtain ⟨m1, l1, o1, f1⟩ := clr_l hg m0 (by omega) e1
  rw [r1 m1.2.1]
  refine ⟨kn m1.2.1 (by omega), fun M2 e2 => ?_⟩
  obtain ⟨m2, l2, o2, f2⟩ := clr_l hg m1 (by omega) e2
  rw [r2 m2.2.1]
  refine ⟨kn m2.2.1 (by omega), fun M3 e3 => ?_⟩
  obtain ⟨m3, l3, o3, f3⟩ := clr_l hg m2 (by omega) e3
  rw [r3 m3.2.1]
  refine ⟨kn m3.2.1 (by omega), fun M4 e4 => ?_⟩
  obtain ⟨m4, l4, o4, f4⟩ := clr_l hg m3 (by omega) e4
  rw [r4 m4.2.1]
  refine ⟨kn m4.2.1 (by omega), fun M5 e5 => ?_⟩
  obtain ⟨m5, l5, o5, f5⟩ := clr_l hg m4 (by omega) e5
  rw [r5 m5.2.1]
  refine ⟨kn m5.2.1 (by omega), fun M6 e6 M7 e7 M8 e8 M9 e9 M10 e10 => ?_⟩
  obtain ⟨m6, l6, o6, f6⟩ := clr_l hg m5 (by omega) e6
  obtain ⟨m7, o7, f7⟩ := clr_f (v := 0) ⟨by decide, by decide⟩ hg m6 e7
  obtain ⟨m8, o8, f8⟩ := clr_f (v := 0) ⟨by decide, by decide⟩ hg m7 e8
  obtain ⟨m9, o9, f9⟩ := clr_f (v := -1) ⟨by decide, by decide⟩ hg m8 e9
  obtain ⟨m10, o10, f10⟩ := clr_f (v := 0) ⟨by decide, by decide⟩ hg m9 e10
  rw [r27 m10.2.1]
  refine ⟨kn m10.2.1 (by omega), fun M11 e11 => ?_⟩
  obtain ⟨m11, l11, o11, f11⟩ := clr_l hg m10 (by omega) e11
  rw [r28 m11.2.1]
  refine ⟨kn m11.2.1 (by omega), fun M12 e12 => ?_⟩
  obtain ⟨m12, l12, o12, f12⟩ := clr_l hg m11 (by omega) e12
  rw [r29 m12.2.1]
  refine ⟨kn m12.2.1 (by omega), fun M13 e13 => ?_⟩
  obtain ⟨m13, l13, o13, f13⟩ := clr_l hg m12 (by omega) e13
  have last : ∀ q, q ∈ nums a → q ≠ g + 30 → q ≠ g + 32 → q ≠ g + 34 → ln M13 q = ln M6 q := fun q hq h1 h2 h3 => by rw [o13 q hq h3, o12 q hq h2, o11 q hq h1, o10 q hq, o9 q hq, o8 q hq, o7 q hq]
  refine ⟨m13.1, m13, fun q hq => ?_, ?_, ?_, ?_, ?_⟩
  · have h' : q = g + 1 ∨ q = g + 3 ∨ q = g + 5 ∨ q = g + 7 ∨ q = g + 9 ∨ q = g + 11 ∨ q = g + 30 ∨ q = g + 32 ∨ q = g + 34 := hq
    rcases h' with y | y | y | y | y | y | y | y | y <;> rw [y]
    · rw [last _ i1 (by omega) (by omega) (by omega), o6 _ i1 (by omega), o5 _ i1 (by omega), o4 _ i1 (by omega), o3 _ i1 (by omega), o2 _ i1 (by omega), l1]
    · rw [last _ i3 (by omega) (by omega) (by omega), o6 _ i3 (by omega), o5 _ i3 (by omega), o4 _ i3 (by omega), o3 _ i3 (by omega), l2]
    · rw [last _ i5 (by omega) (by omega) (by omega), o6 _ i5 (by omega), o5 _ i5 (by omega), o4 _ i5 (by omega), l3]
    · rw [last _ i7 (by omega) (by omega) (by omega), o6 _ i7 (by omega), o5 _ i7 (by omega), l4]
    · rw [last _ i9 (by omega) (by omega) (by omega), o6 _ i9 (by omega), l5]
    · rw [last _ i11 (by omega) (by omega) (by omega), l6]
    · rw [o13 _ i30 (by omega), o12 _ i30 (by omega), l11]
    · rw [o13 _ i32' (by omega), l12]
    · exact l13
  · rw [f13, f12, f11, f10, if_neg (by omega), f9, if_neg (by omega), f8, if_neg (by omega), f7, if_pos rfl]
  · rw [f13, f12, f11, f10, if_neg (by omega), f9, if_neg (by omega), f8, if_pos rfl]
  · rw [f13, f12, f11, f10, if_neg (by omega), f9, if_pos rfl]
  · rw [f13, f12, f11, f10, if_pos rfl]
theorem s_MM_items0 {f : Nat} (hO : mOk M) (hx : Wx M a N) (h10 : mR M a 10 = g) (hg : g = a + 13 ∨ g = a + 49) (hac : Ac (wk M a) N f [50] 0) : Cv G y_MM_items0 (d + 11) [vr a] M (fun M' => mOk M' ∧ itmQ M a g N M') := by
  have w := hx.1.1
  have hN := hx.1.2.2
  have r13 : ∀ {M3 : mM}, Wd M3 a → mR M3 a 13 = a + 85 := fun w => w.1.2.2.2.2.1.1
  have r14 : ∀ {M3 : mM}, Wd M3 a → mR M3 a 14 = a + 87 := fun w => w.1.2.2.2.2.1.2.1
  have r15 : ∀ {M3 : mM}, Wd M3 a → mR M3 a 15 = a + 89 := fun w => w.1.2.2.2.2.1.2.2.1
  refine k_MM_items0 hO ?_
  rw [h10]
  refine ⟨w.1.1, (w.gp hg).1, (s_MG_clear (d := d + 9) hO w hg).mono (fun M1 t1 => ?_)⟩
  obtain ⟨o1, m1, c1, c6, c12, c17, c18⟩ := t1
  have w1 := m1.2.1
  have hin1 : ∀ q, gL9 g q → q ∈ nums a := fun q hq => gL9_in hg hq
  have aI1 := (m1.fld w hin1 (by omega)).1
  have g9 : ∀ {q}, gL9 g q → itP a g q := fun {q} hq => ⟨gL9_in hg hq, by have : q = g + 1 ∨ q = g + 3 ∨ q = g + 5 ∨ q = g + 7 ∨ q = g + 9 ∨ q = g + 11 ∨ q = g + 30 ∨ q = g + 32 ∨ q = g + 34 := hq; omega⟩
  have I1 : iF M a g M1 := iF.mk w m1 (fun q hq => g9 hq) (fun x z => Or.inr (Or.inl (by omega))) (fun i _ _ _ => by rw [aI1])
  have nset : ∀ {p : Nat} {Mx My : mM}, p = a + 85 ∨ p = a + 87 ∨ p = a + 89 → iF M a g Mx → mI Mx g = mI M1 g → (∀ q, gL9 g q → ln Mx q = 0) → My = mUI Mx p 1 0 → iF M a g My ∧ mI My g = mI M1 g ∧ (∀ q, gL9 g q → ln My q = 0) ∧ ln My p = 0 ∧ (∀ q, q ∈ nums a → q ≠ p → ln My q = ln Mx q) := fun {p Mx My} hp hI hgI hz he => by
    have wx := hI.1.2.1
    have pn : p ∈ nums a := by rcases hp with y | y | y <;> rw [y]; exact n85; exact n87; exact n89
    have b : 0 ≤ ln Mx p := (wx.nu pn).2.2.2.1.1
    obtain ⟨m3, l3, -, -⟩ := mv_set hI.1.1 wx pn (v := 0) (by omega) b he
    have hin : ∀ q, q = p → q ∈ nums a := fun q hq => by rw [hq]; exact pn
    refine ⟨hI.trans (iF.mk wx m3 (fun q hq => ⟨hin q hq, by omega⟩) (fun _ z => z.elim) (fun i _ _ _ => by rw [(m3.fld wx hin (fun z => z)).1])), (m3.gI wx hg hin (fun z => z)).trans hgI, fun q hq => ?_, l3, fun q hq hne => (m3.lst hq hne).1⟩
    have hq' : q = g + 1 ∨ q = g + 3 ∨ q = g + 5 ∨ q = g + 7 ∨ q = g + 9 ∨ q = g + 11 ∨ q = g + 30 ∨ q = g + 32 ∨ q = g + 34 := hq
    rw [(m3.lst (gL9_in hg hq) (by omega)).1]
    exact hz q hq
  rw [r13 w1]
  refine ⟨o1, w1.1.1, (w1.nu n85).1, fun M2 e2 => ?_⟩
  obtain ⟨I2, g2, z2, l2, u2⟩ := nset (Or.inl rfl) I1 rfl c1 e2
  have w2 := I2.1.2.1
  rw [r14 w2]
  refine ⟨(w2.nu n87).1, fun M3 e3 => ?_⟩
  obtain ⟨I3, g3, z3, l3, u3⟩ := nset (Or.inr (Or.inl rfl)) I2 g2 z2 e3
  have w3 := I3.1.2.1
  rw [r15 w3]
  refine ⟨(w3.nu n89).1, fun M4 e4 M5 e5 => ?_⟩
  obtain ⟨I4, g4, z4, l4, u4⟩ := nset (Or.inr (Or.inr rfl)) I3 g3 z3 e4
  have w4 := I4.1.2.1
  obtain ⟨m5, f5⟩ := mv_fld (v := 0) ⟨by decide, by decide⟩ I4.1.1 w4 e5
  have no : ∀ q : Nat, False → q ∈ nums a := fun _ z => z.elim
  have g5 : mI M5 g = mI M1 g := (m5.gI w4 hg no (by omega)).trans g4
  have I5 : iF M a g M5 := I4.trans (iF.mk w4 m5 (fun _ z => z.elim) (fun x z => Or.inl z) (fun i i1 _ _ => by rw [f5, if_neg i1]))
  have s5 : ∀ {q}, q ∈ nums a → ln M5 q = ln M4 q := fun hq => (m5.lst hq (fun z => z)).1
  have k85 : ln M5 (a + 85) = 0 := by rw [s5 n85, u4 _ n85 (by omega), u3 _ n85 (by omega), l2]
  have k87 : ln M5 (a + 87) = 0 := by rw [s5 n87, u4 _ n87 (by omega), l3]
  have k89 : ln M5 (a + 89) = 0 := by rw [s5 n89, l4]
  have hin5 : ∀ q, itP a g q → q ∈ nums a := fun q hq => hq.1
  have t2 : ¬ itP a g (mR M a 2) := fun z => by
    have := z.2
    rcases w.1.2.1 with y | y <;> rw [y.2] at this <;> omega
  have x5 : Wx M5 a N := hx.mv I5.1 hin5 (fun z => by have := z.2; omega) (fun z => by have := z.2; omega) (fun z => by have := z.2; omega) t2
  have h105 : mR M5 a 10 = g := by rw [I5.1.rfl_a w hin5]; exact h10
  have L5 : Lc M5 a g N 0 0 := ⟨I5.1.1, x5, ⟨k85, k87, k89, by omega, fun k hk => absurd hk (by omega)⟩, fun q hq => by rw [s5 (tL_in hg hq), z4 q (by have : q = g + 1 ∨ q = g + 3 ∨ q = g + 5 ∨ q = g + 7 ∨ q = g + 9 ∨ q = g + 11 := hq; omega)]; rfl, h105, hg, by rw [g5, c6, c12]; omega, by omega⟩
  have D5 : Df M5 a g N 0 0 0 0 0 0 (fun _ => 0) (-1) := ⟨L5, ⟨by rw [g5, c6]; rfl, by rw [g5, c12]; rfl, by rw [g5, c18]; rfl, by rw [g5, c17]⟩, ⟨by rw [s5 (n30 hg), z4 _ (by omega)]; rfl, by rw [s5 (n32 hg), z4 _ (by omega)]; rfl, by rw [s5 (n34 hg), z4 _ (by omega)]; rfl⟩, rfl, ⟨⟨by omega, by omega, by omega⟩, fun r hr => absurd hr (by omega), fun r hr => absurd hr (by omega), fun r hr => absurd hr (by omega), fun r hr => absurd hr (by omega), fun r hr => absurd hr (by omega), Or.inl rfl⟩⟩
  exact s_it_run hN hg f 0 M5 hac I5 (by rw [f5, if_pos rfl]) ⟨0, 0, 0, 0, 0, 0, fun _ => 0, -1, D5, Nat.le_refl _, Nat.le_refl _⟩
end CL
end
section
/-! The reference's tree of a rule: pure. S sorts, A places, V values, F first parts, B brothers of nodes. -/
/-- the nodes n to e - 1 are the tree of the words i to j - 1; c = 1: brothers, one for each part of a list, the last one's brother is x -/
def Td (w pl nv S A V F B : Nat → Int) (c : Nat) (x : Int) (i j n e : Nat) : Prop :=
  haveI := Classical.propDecidable (lin w i j)
  if hij : i < j then
    if hc : c = 1 then
      if hp : lcq w i (j - i) = 0 then Td w pl nv S A V F B 0 0 i j n e ∧ B n = x
      else ∃ m : Nat, Td w pl nv S A V F B 1 (m : Int) i (i + lcq w i (j - i) - 1) n m ∧ Td w pl nv S A V F B 0 0 (i + lcq w i (j - i)) j m e ∧ B m = x
    else if hm : lin w i j then
      if w (loq w i j) = 32 then ∃ a b : Nat, (S n = w (loq w i j) ∧ A n = pl (loq w i j) ∧ F n = ((n + 1 : Nat) : Int)) ∧ Td w pl nv S A V F B 0 0 i (loq w i j) (n + 1) a ∧ B (n + 1) = (a : Int) ∧ Td w pl nv S A V F B 0 0 (loq w i j + 1) (clq w (loq w i j) j) a b ∧ B a = (b : Int) ∧ Td w pl nv S A V F B 0 0 (clq w (loq w i j) j + 1) j b e ∧ B b = -1
      else ∃ a : Nat, (S n = w (loq w i j) ∧ A n = pl (loq w i j) ∧ F n = ((n + 1 : Nat) : Int)) ∧ Td w pl nv S A V F B 0 0 i (loq w i j) (n + 1) a ∧ B (n + 1) = (a : Int) ∧ Td w pl nv S A V F B 0 0 (loq w i j + 1) j a e ∧ B a = -1
    else if w i = 36 then Td w pl nv S A V F B 0 0 (i + 1) (j - 1) n e
    else if w i = 25 ∨ w i = 31 then (S n = (if w i = 25 then 45 else 31) ∧ A n = pl i ∧ F n = ((n + 1 : Nat) : Int)) ∧ Td w pl nv S A V F B 0 0 (i + 1) j (n + 1) e ∧ B (n + 1) = -1
    else if w i = 14 ∨ w i = 15 then (S n = w i ∧ A n = pl i ∧ F n = ((n + 1 : Nat) : Int)) ∧ Td w pl nv S A V F B 1 (-1) (i + 2) (j - 1) (n + 1) e
    else e = n + 1 ∧ S n = w i ∧ A n = pl i ∧ F n = -1 ∧ V n = nv i
  else False
termination_by 2 * (j - i) + c
decreasing_by
  all_goals simp_wf
  all_goals have a1 := lcq_le (w := w) (i := i) (j - i)
  all_goals have a2 := clq_b (w := w) (m := loq w i j) (j := j)
  all_goals first | omega | (have a3 := hm.2; omega)
section TDE
variable {w pl nv S A V F B S' A' V' F' B' : Nat → Int} {i j m n e : Nat} {x : Int}
theorem Td_bin (h : lo w i j = (m : Int)) (h1 : i ≤ m) (h2 : m < j) (h3 : w m ≠ 32) : Td w pl nv S A V F B 0 x i j n e ↔ ∃ a : Nat, (S n = w m ∧ A n = pl m ∧ F n = ((n + 1 : Nat) : Int)) ∧ Td w pl nv S A V F B 0 0 i m (n + 1) a ∧ B (n + 1) = (a : Int) ∧ Td w pl nv S A V F B 0 0 (m + 1) j a e ∧ B a = -1 := by
  obtain ⟨a, b⟩ := lin_of h h1 h2
  rw [Td, dif_pos (by omega), dif_neg (by decide), dif_pos a, b, if_neg h3]
theorem Td_ask {q : Nat} (h : lo w i j = (m : Int)) (h1 : i ≤ m) (h2 : m < j) (h3 : w m = 32) (hq : clq w m j = q) : Td w pl nv S A V F B 0 x i j n e ↔ ∃ a b : Nat, (S n = w m ∧ A n = pl m ∧ F n = ((n + 1 : Nat) : Int)) ∧ Td w pl nv S A V F B 0 0 i m (n + 1) a ∧ B (n + 1) = (a : Int) ∧ Td w pl nv S A V F B 0 0 (m + 1) q a b ∧ B a = (b : Int) ∧ Td w pl nv S A V F B 0 0 (q + 1) j b e ∧ B b = -1 := by
  obtain ⟨a, b⟩ := lin_of h h1 h2
  rw [Td, dif_pos (by omega), dif_neg (by decide), dif_pos a, b, if_pos h3, hq]
theorem Td_par (h : lo w i j = -1) (hij : i < j) (h3 : w i = 36) : Td w pl nv S A V F B 0 x i j n e ↔ Td w pl nv S A V F B 0 0 (i + 1) (j - 1) n e := by
  rw [Td, dif_pos hij, dif_neg (by decide), dif_neg (lin_no h), if_pos h3]
theorem Td_pre (h : lo w i j = -1) (hij : i < j) (h3 : w i = 25 ∨ w i = 31) : Td w pl nv S A V F B 0 x i j n e ↔ (S n = (if w i = 25 then 45 else 31) ∧ A n = pl i ∧ F n = ((n + 1 : Nat) : Int)) ∧ Td w pl nv S A V F B 0 0 (i + 1) j (n + 1) e ∧ B (n + 1) = -1 := by
  rw [Td, dif_pos hij, dif_neg (by decide), dif_neg (lin_no h), if_neg (by omega), if_pos h3]
theorem Td_lst (h : lo w i j = -1) (hij : i < j) (h3 : w i = 14 ∨ w i = 15) : Td w pl nv S A V F B 0 x i j n e ↔ (S n = w i ∧ A n = pl i ∧ F n = ((n + 1 : Nat) : Int)) ∧ Td w pl nv S A V F B 1 (-1) (i + 2) (j - 1) (n + 1) e := by
  rw [Td, dif_pos hij, dif_neg (by decide), dif_neg (lin_no h), if_neg (by omega), if_neg (by omega), if_pos h3]
theorem Td_leaf (h : lo w i j = -1) (hij : i < j) (h3 : w i = 1 ∨ w i = 2 ∨ w i = 12 ∨ w i = 13) : Td w pl nv S A V F B 0 x i j n e ↔ e = n + 1 ∧ S n = w i ∧ A n = pl i ∧ F n = -1 ∧ V n = nv i := by
  rw [Td, dif_pos hij, dif_neg (by decide), dif_neg (lin_no h), if_neg (by omega), if_neg (by omega), if_neg (by omega)]
theorem Td_l1 (hij : i < j) (h : lcq w i (j - i) = 0) : Td w pl nv S A V F B 1 x i j n e ↔ Td w pl nv S A V F B 0 0 i j n e ∧ B n = x := by
  rw [Td, dif_pos hij, dif_pos rfl, dif_pos h]
theorem Td_ln (hij : i < j) (h : lcq w i (j - i) = m - i + 1) (hm : i ≤ m) : Td w pl nv S A V F B 1 x i j n e ↔ ∃ k : Nat, Td w pl nv S A V F B 1 (k : Int) i m n k ∧ Td w pl nv S A V F B 0 0 (m + 1) j k e ∧ B k = x := by
  rw [Td, dif_pos hij, dif_pos rfl, dif_neg (by omega), h, show i + (m - i + 1) - 1 = m by omega, show i + (m - i + 1) = m + 1 by omega]
theorem Td_lt : ∀ (f c i j : Nat), 2 * (j - i) + c ≤ f → Eoc w c i j → ∀ (x : Int) (n e : Nat), Td w pl nv S A V F B c x i j n e → n < e ∧ e ≤ n + (j - i) := by
  refine Eo_ind (P := fun c i j => ∀ (x : Int) (n e : Nat), Td w pl nv S A V F B c x i j n e → n < e ∧ e ≤ n + (j - i)) ?_ ?_ ?_ ?_ ?_ ?_ ?_ ?_
  · intro i m q j h1 h2 h3 h4 h5 h6 h7 h8 _ _ _ i1 i2 i3 x n e ht
    rw [Td_ask h1 h2 h3 h6 h8] at ht
    obtain ⟨a, b, -, t1, -, t2, -, t3, -⟩ := ht
    have := i1 _ _ _ t1
    have := i2 _ _ _ t2
    have := i3 _ _ _ t3
    omega
  · intro i m j h1 h2 h3 h4 _ _ i1 i2 x n e ht
    rw [Td_bin h1 h2 h3 (by omega)] at ht
    obtain ⟨a, -, t1, -, t2, -⟩ := ht
    have := i1 _ _ _ t1
    have := i2 _ _ _ t2
    omega
  · intro i j h1 h2 h3 _ _ i1 x n e ht
    rw [Td_par h1 h2 h3] at ht
    have := i1 _ _ _ ht
    omega
  · intro i j h1 h2 h3 _ i1 x n e ht
    rw [Td_pre h1 h2 h3] at ht
    have := i1 _ _ _ ht.2.1
    omega
  · intro i h1 h3 x n e ht
    rw [Td_leaf h1 (by omega) h3] at ht
    omega
  · intro i j h1 h2 h3 _ _ i1 x n e ht
    rw [Td_lst h1 h2 h3] at ht
    have := i1 _ _ _ ht.2
    omega
  · intro i j h1 h2 _ i1 x n e ht
    rw [Td_l1 h1 h2] at ht
    exact i1 _ _ _ ht.1
  · intro i m j h1 h2 h3 h4 h5 _ _ i1 i2 x n e ht
    rw [Td_ln h1 h4 h2] at ht
    obtain ⟨k, t1, t2, -⟩ := ht
    have := i1 _ _ _ t1
    have := i2 _ _ _ t2
    omega
theorem Td.lt {c : Nat} (h : Td w pl nv S A V F B c x i j n e) (he : Eoc w c i j) : n < e ∧ e ≤ n + (j - i) := Td_lt _ c i j (Nat.le_refl _) he x n e h
/-- the same nodes, the same tree -/
theorem Td_cg : ∀ (f c i j : Nat), 2 * (j - i) + c ≤ f → Eoc w c i j → ∀ (x : Int) (n e : Nat), Td w pl nv S A V F B c x i j n e → (∀ k, n ≤ k → k < e → S' k = S k ∧ A' k = A k ∧ V' k = V k ∧ F' k = F k) → (∀ k, n < k → k < e → B' k = B k) → (c = 1 → B' n = B n) → Td w pl nv S' A' V' F' B' c x i j n e := by
  refine Eo_ind (P := fun c i j => ∀ (x : Int) (n e : Nat), Td w pl nv S A V F B c x i j n e → (∀ k, n ≤ k → k < e → S' k = S k ∧ A' k = A k ∧ V' k = V k ∧ F' k = F k) → (∀ k, n < k → k < e → B' k = B k) → (c = 1 → B' n = B n) → Td w pl nv S' A' V' F' B' c x i j n e) ?_ ?_ ?_ ?_ ?_ ?_ ?_ ?_
  · intro i m q j h1 h2 h3 h4 h5 h6 h7 h8 o1 o2 o3 i1 i2 i3 x n e ht g1 g2 g3
    rw [Td_ask h1 h2 h3 h6 h8] at ht ⊢
    obtain ⟨a, b, ⟨s1, s2, s3⟩, t1, b1, t2, b2, t3, b3⟩ := ht
    have l1 := t1.lt (Or.inl ⟨rfl, o1⟩)
    have l2 := t2.lt (Or.inl ⟨rfl, o2⟩)
    have l3 := t3.lt (Or.inl ⟨rfl, o3⟩)
    obtain ⟨k1, k2, -, k4⟩ := g1 n (Nat.le_refl _) (by omega)
    exact ⟨a, b, ⟨by rw [k1]; exact s1, by rw [k2]; exact s2, by rw [k4]; exact s3⟩, i1 _ _ _ t1 (fun k u v => g1 k (by omega) (by omega)) (fun k u v => g2 k (by omega) (by omega)) (fun u => absurd u (by decide)), by rw [g2 _ (by omega) (by omega)]; exact b1, i2 _ _ _ t2 (fun k u v => g1 k (by omega) (by omega)) (fun k u v => g2 k (by omega) (by omega)) (fun u => absurd u (by decide)), by rw [g2 _ (by omega) (by omega)]; exact b2, i3 _ _ _ t3 (fun k u v => g1 k (by omega) (by omega)) (fun k u v => g2 k (by omega) (by omega)) (fun u => absurd u (by decide)), by rw [g2 _ (by omega) (by omega)]; exact b3⟩
  · intro i m j h1 h2 h3 h4 o1 o2 i1 i2 x n e ht g1 g2 g3
    rw [Td_bin h1 h2 h3 (by omega)] at ht ⊢
    obtain ⟨a, ⟨s1, s2, s3⟩, t1, b1, t2, b2⟩ := ht
    have l1 := t1.lt (Or.inl ⟨rfl, o1⟩)
    have l2 := t2.lt (Or.inl ⟨rfl, o2⟩)
    obtain ⟨k1, k2, -, k4⟩ := g1 n (Nat.le_refl _) (by omega)
    exact ⟨a, ⟨by rw [k1]; exact s1, by rw [k2]; exact s2, by rw [k4]; exact s3⟩, i1 _ _ _ t1 (fun k u v => g1 k (by omega) (by omega)) (fun k u v => g2 k (by omega) (by omega)) (fun u => absurd u (by decide)), by rw [g2 _ (by omega) (by omega)]; exact b1, i2 _ _ _ t2 (fun k u v => g1 k (by omega) (by omega)) (fun k u v => g2 k (by omega) (by omega)) (fun u => absurd u (by decide)), by rw [g2 _ (by omega) (by omega)]; exact b2⟩
  · intro i j h1 h2 h3 _ _ i1 x n e ht g1 g2 g3
    rw [Td_par h1 h2 h3] at ht ⊢
    exact i1 _ _ _ ht g1 g2 (fun u => absurd u (by decide))
  · intro i j h1 h2 h3 o1 i1 x n e ht g1 g2 g3
    rw [Td_pre h1 h2 h3] at ht ⊢
    obtain ⟨⟨s1, s2, s3⟩, t1, b1⟩ := ht
    have l1 := t1.lt (Or.inl ⟨rfl, o1⟩)
    obtain ⟨k1, k2, -, k4⟩ := g1 n (Nat.le_refl _) (by omega)
    exact ⟨⟨by rw [k1]; exact s1, by rw [k2]; exact s2, by rw [k4]; exact s3⟩, i1 _ _ _ t1 (fun k u v => g1 k (by omega) (by omega)) (fun k u v => g2 k (by omega) (by omega)) (fun u => absurd u (by decide)), by rw [g2 _ (by omega) (by omega)]; exact b1⟩
  · intro i h1 h3 x n e ht g1 g2 g3
    rw [Td_leaf h1 (by omega) h3] at ht ⊢
    obtain ⟨rfl, s1, s2, s3, s4⟩ := ht
    obtain ⟨k1, k2, k3, k4⟩ := g1 n (Nat.le_refl _) (by omega)
    exact ⟨rfl, by rw [k1]; exact s1, by rw [k2]; exact s2, by rw [k4]; exact s3, by rw [k3]; exact s4⟩
  · intro i j h1 h2 h3 _ o1 i1 x n e ht g1 g2 g3
    rw [Td_lst h1 h2 h3] at ht ⊢
    obtain ⟨⟨s1, s2, s3⟩, t1⟩ := ht
    have l1 := t1.lt (Or.inr ⟨rfl, o1⟩)
    obtain ⟨k1, k2, -, k4⟩ := g1 n (Nat.le_refl _) (by omega)
    exact ⟨⟨by rw [k1]; exact s1, by rw [k2]; exact s2, by rw [k4]; exact s3⟩, i1 _ _ _ t1 (fun k u v => g1 k (by omega) (by omega)) (fun k u v => g2 k (by omega) (by omega)) (fun _ => g2 _ (by omega) (by omega))⟩
  · intro i j h1 h2 _ i1 x n e ht g1 g2 g3
    rw [Td_l1 h1 h2] at ht ⊢
    exact ⟨i1 _ _ _ ht.1 g1 g2 (fun u => absurd u (by decide)), by rw [g3 rfl]; exact ht.2⟩
  · intro i m j h1 h2 h3 h4 h5 o1 o2 i1 i2 x n e ht g1 g2 g3
    rw [Td_ln h1 h4 h2] at ht ⊢
    obtain ⟨k, t1, t2, b1⟩ := ht
    have l1 := t1.lt (Or.inr ⟨rfl, o1⟩)
    have l2 := t2.lt (Or.inl ⟨rfl, o2⟩)
    exact ⟨k, i1 _ _ _ t1 (fun k u v => g1 k (by omega) (by omega)) (fun k u v => g2 k (by omega) (by omega)) (fun _ => g3 rfl), i2 _ _ _ t2 (fun k u v => g1 k (by omega) (by omega)) (fun k u v => g2 k (by omega) (by omega)) (fun u => absurd u (by decide)), by rw [g2 _ (by omega) (by omega)]; exact b1⟩
theorem Td.cg {c : Nat} (h : Td w pl nv S A V F B c x i j n e) (he : Eoc w c i j) (g1 : ∀ k, n ≤ k → k < e → S' k = S k ∧ A' k = A k ∧ V' k = V k ∧ F' k = F k) (g2 : ∀ k, n < k → k < e → B' k = B k) (g3 : c = 1 → B' n = B n) : Td w pl nv S' A' V' F' B' c x i j n e := Td_cg _ c i j (Nat.le_refl _) he x n e h g1 g2 g3
/-- brothers, one for each of a list of parts; the last one's brother is x -/
def Tbq (w pl nv S A V F B : Nat → Int) (x : Int) : List (Nat × Nat) → Nat → Nat → Prop
  | [], _, _ => False
  | [(i, j)], n, e => Td w pl nv S A V F B 0 0 i j n e ∧ B n = x
  | (i, j) :: r :: rs, n, e => ∃ m : Nat, Td w pl nv S A V F B 0 0 i j n m ∧ B n = (m : Int) ∧ Tbq w pl nv S A V F B x (r :: rs) m e
/-- brothers by their last one -/
theorem Tbq.snoc {i' j' : Nat} : ∀ (rs : List (Nat × Nat)) {n e : Nat}, rs ≠ [] → Tbq w pl nv S A V F B x (rs ++ [(i', j')]) n e → ∃ m : Nat, Tbq w pl nv S A V F B (m : Int) rs n m ∧ Td w pl nv S A V F B 0 0 i' j' m e ∧ B m = x
  | [], _, _, h, _ => absurd rfl h
  | [(i, j)], n, e, _, h => by
    obtain ⟨m, h1, h2, h3⟩ := h
    exact ⟨m, ⟨h1, h2⟩, h3.1, h3.2⟩
  | (i, j) :: r :: rs, n, e, _, h => by
    obtain ⟨m, h1, h2, h3⟩ := h
    obtain ⟨k, k1, k2, k3⟩ := Tbq.snoc (r :: rs) (by simp) h3
    exact ⟨k, ⟨m, h1, h2, k1⟩, k2, k3⟩
/-- the parts of a list, by its last comma -/
def JM (w : Nat → Int) : Nat → Nat → Nat → List (Nat × Nat) → Prop
  | 0, _, _, _ => False
  | f + 1, i, j, rs => (rs = [(i, j)] ∧ Eo w 6 i j) ∨ ∃ (m : Nat) (r2 : List (Nat × Nat)), w m = 35 ∧ Eo w 7 i m ∧ Eo w 6 (m + 1) j ∧ rs = r2 ++ [(m + 1, j)] ∧ JM w f i m r2
theorem JM.ne : ∀ {f i j : Nat} {rs : List (Nat × Nat)}, JM w f i j rs → rs ≠ []
  | 0, _, _, _, h => h.elim
  | f + 1, i, j, rs, h => by
    rcases h with ⟨h, -⟩ | ⟨m, r2, -, -, -, h, -⟩
    · rw [h]; simp
    · rw [h]; simp
theorem JM.all : ∀ {f i j : Nat} {rs : List (Nat × Nat)}, JM w f i j rs → (∀ i' j', (i', j') ∈ rs → Eo w 6 i' j' ∧ j' ≤ j ∧ j' - i' ≤ j - i)
  | 0, _, _, _, h => h.elim
  | f + 1, i, j, rs, h => by
    intro i' j' q
    rcases h with ⟨h, he⟩ | ⟨m, r2, h1, h2, h3, h4, h5⟩
    · rw [h] at q
      obtain ⟨q1, q2⟩ := Prod.mk.inj (List.mem_singleton.1 q)
      subst q1 q2
      exact ⟨he, Nat.le_refl _, Nat.le_refl _⟩
    · have p2 := h2.pr.1
      have p3 := h3.pr.1
      rw [h4] at q
      rcases List.mem_append.1 q with q | q
      · have := JM.all h5 i' j' q
        exact ⟨this.1, by omega, by omega⟩
      · obtain ⟨q1, q2⟩ := Prod.mk.inj (List.mem_singleton.1 q)
        subst q1 q2
        exact ⟨h3, Nat.le_refl _, by omega⟩
theorem tb_td : ∀ {f i j : Nat} {rs : List (Nat × Nat)} {x : Int} {n e : Nat}, JM w f i j rs → Tbq w pl nv S A V F B x rs n e → Td w pl nv S A V F B 1 x i j n e
  | 0, _, _, _, _, _, _, h, _ => h.elim
  | f + 1, i, j, rs, x, n, e, h, t => by
    rcases h with ⟨h, he⟩ | ⟨m, r2, h1, h2, h3, h4, h5⟩
    · subst h
      rw [Td_l1 he.pr.1 (lcq_eo he (by omega))]
      exact t
    · subst h4
      have p2 := h2.pr.1
      have p3 := h3.pr.1
      obtain ⟨k, k1, k2, k3⟩ := Tbq.snoc r2 h5.ne t
      rw [Td_ln (m := m) (by omega) (lcq_7 h2 h1 h3) (by omega)]
      exact ⟨k, tb_td h5 k1, k2, k3⟩
end TDE
end
