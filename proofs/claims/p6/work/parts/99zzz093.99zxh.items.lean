section
/-! The reference: the items of a text are read. -/
section ITE
variable {G : mG} {d a g R W C T Z T2 T3 N K : Nat} {M M2 M3 : mM} {E : Nat → Nat} {tg : Int}
/-- the items have been read -/
def itmQ (M : mM) (a g N : Nat) (M' : mM) : Prop := iF M a g M' ∧ (mI M' a 16 ≠ 0 ∨ (mI M' a 16 = 0 ∧ ∃ (T K R W C Z : Nat) (E : Nat → Nat) (tg : Int), Df M' a g N T K R W C Z E tg ∧ T < N ∧ Z < N ∧ 0 ≤ tg))
theorem Df.tgt {M4 : mM} (h : Df M2 a g N T2 K R W C Z E tg) (t1 : T2 < T3) (Rl : rlR 0 M2 a g N T2 K T3 1 M3) (hT3 : T3 ≤ 30000) (e : M4 = mUI M3 g 17 (T2 : Int)) : iF M2 a g M4 ∧ mI M4 a = mI M3 a ∧ mOk M4 ∧ (mI M3 a 16 = 0 → Df M4 a g N T3 K R W C Z E (T2 : Int)) := by
  obtain ⟨hL, ⟨g6, g12, g18, g17⟩, ⟨y30, y32, y34⟩, hK, hD⟩ := h
  obtain ⟨I3, G3, z30, z32, z34⟩ := rlR.ge (R := R) (W := W) (C := C) (Z := Z) hL Rl
  have L3 := Rl.2.1
  have g3 : mI M3 g = mI M2 g := Rl.2.2.2.1
  have hg := L3.2.2.2.2.2.1
  have hB := L3.2.2.2.2.2.2.1
  have w3 := L3.2.1.1.1
  have a0 := goff0 hg
  obtain ⟨m1, f1, l1⟩ := mv_cell (v := (T2 : Int)) (i32s (by omega) (by omega)) L3.1 w3 (show a ≤ g by omega) ⟨a0.1, a0.2.1, a0.2.2.1⟩ e
  have no : ∀ q : Nat, False → q ∈ nums a := fun _ z => z.elim
  have aI1 := (m1.fld w3 no (by omega)).1
  have n17 : ∀ i, i ≠ 17 → mI M4 g i = mI M3 g i := fun i hi => by rw [f1, if_neg (fun z => hi z.2)]
  have x17 : mI M4 g 17 = (T2 : Int) := by rw [f1, if_pos ⟨rfl, rfl⟩]
  have L4 : Lc M4 a g N T3 K := L3.mv m1 no (fun _ z => z.elim) (by rw [n17 6 (by omega)]; omega) (by rw [n17 12 (by omega)]; omega) (by rw [n17 6 (by omega), n17 12 (by omega)]; omega) (fun r _ => by rw [f1, if_neg (fun z => by omega)])
  have s : ∀ {q}, q ∈ nums a → sameN M3 M4 q := fun hq => m1.lst hq (fun z => z)
  refine ⟨I3.trans (iF.mk w3 m1 (fun _ z => z.elim) (fun x z => Or.inr (Or.inl (by omega))) (fun i _ _ _ => by rw [aI1])), aI1, m1.1, fun z => ?_⟩
  have G4 : Ge M3 g R W C Z T3 M4 := ge_mv w3 hg m1 no (fun z => z) (fun z => z) (fun i i1 i2 (z : g + i = g) => by omega) (fun n _ => ⟨(s (tL_in (q := g + 1) hg (by omega))).2.1 n, (s (tL_in (q := g + 7) hg (by omega))).2.1 n, (s (tL_in (q := g + 9) hg (by omega))).2.1 n, (s (tL_in (q := g + 11) hg (by omega))).2.1 n⟩)
  have rt := (rl_rt hL g6 g12 hD Rl z).gn G4.1 hD.1.1
  exact ⟨L4, ⟨by rw [n17 6 (by omega), g3]; exact g6, by rw [n17 12 (by omega), g3]; exact g12, by rw [n17 18 (by omega), g3]; exact g18, x17⟩, ⟨by rw [(s (n30 hg)).1, z30]; exact y30, by rw [(s (n32 hg)).1, z32]; exact y32, by rw [(s (n34 hg)).1, z34]; exact y34⟩, hK, (((hD.ge (G3 z)).tu (Nat.le_of_lt t1)).ge G4).tgu (Or.inr rt)⟩
theorem Lc.ue {k e : Nat} {Q : Int → mM → Prop} (h : Lc M a g N T K) (hi : It (wk M a) k e) (he : e < N) (hQ : Q e M) : Ci G y_MM_until (d + 2) [vr a, vi k, vi 34] M Q := by
  refine (s_until_end (d := d) h.1 h.2.1.1 hi he).mono (fun x M1 e1 => ?_)
  obtain ⟨e1, hx⟩ := e1
  subst e1
  rw [hx]
  exact hQ
theorem s_it_x {k : Int} (ik : i32 k) (w2 : Wd M2 a) (o2 : mOk M2) (hI : iF M a g M2) (z : mI M2 a 16 ≠ 0) : h_MM_items0_38 G (d + 10) a k M2 (fun M' => mOk M' ∧ itmQ M a g N M') :=
  k_MM_items0_38 o2 ik ⟨w2.1.1, fun y => absurd y z, fun _ => ⟨fun y => absurd y z, fun _ => k_MM_items0_218 o2 ⟨o2, hI, Or.inl z⟩, fun y => absurd (Or.inl z) y⟩⟩
theorem s_it_run (hN : N ≤ 16385) (hg : g = a + 13 ∨ g = a + 49) : ∀ (f k : Nat) (M2 : mM), Ac (wk M a) N f [50] k → iF M a g M2 → mI M2 a 16 = 0 → (∃ (T K R W C Z : Nat) (E : Nat → Nat) (tg : Int), Df M2 a g N T K R W C Z E tg ∧ T ≤ k ∧ Z ≤ k) → h_MM_items0_38 G (d + 10) a k M2 (fun M' => mOk M' ∧ itmQ M a g N M') := by
  intro f
  induction f using Nat.strongRecOn with
  | ind f ih =>
    intro k M2 hac hI z2 hDf
    obtain ⟨T, K, R, W, C, Z, E, tg, h, hT, hZ⟩ := hDf
    have hL := h.1
    have w2 := hL.2.1.1.1
    have wkE := hI.wk hg
    have hkN := ac_le hac
    have h17 := h.2.1.2.2.2
    have ik : i32 (k : Int) := i32s (by omega) (by omega)
    -- after an item
    have nxt : ∀ (e g' : Nat) (M3 : mM), g' < f → e < N → Ac (wk M a) N g' [50] (e + 1) → itQ M2 a g N (e + 1) M3 → h_MM_items0_183 G (d + 10) a e M3 (fun M' => mOk M' ∧ itmQ M a g N M') := fun e g' M3 hg' he hac' hq => by
      obtain ⟨I3, hq⟩ := hq
      have I03 := hI.trans I3
      refine k_MM_items0_183 I3.1.1 (i32s (by omega) (by omega)) ?_
      rw [show (e : Int) + 1 = ((e + 1 : Nat) : Int) by omega]
      rcases hq with y | ⟨y1, y2⟩
      · exact s_it_x (i32s (by omega) (by omega)) I3.1.2.1 I3.1.1 I03 y
      · exact ih g' hg' (e + 1) M3 hac' I03 y1 y2
    rcases ac_item hac with ⟨c0, c1⟩ | ⟨c0, e, g', hg', hit, hac'⟩
    · have kN : k < N := by omega
      refine k_MM_items0_38 hL.1 ik ⟨w2.1.1, fun _ => hL.wd (d := d + 9) kN (fun x hx ix => ⟨ix, hL.1, fun _ => ⟨w2.1.1, ?_⟩, fun q => absurd (hx.trans (by rw [wkE]; exact c0)) q⟩), fun y => absurd z2 y⟩
      rw [show mR M2 a 10 = g from hL.2.2.2.2.1, h17]
      refine ⟨fun _ => (w2.gp hg).1, fun q => k_MM_items0_218 hL.1 ⟨hL.1, hI, Or.inr ⟨z2, T, K, R, W, C, Z, E, tg, h, by omega, by omega, ?_⟩⟩, fun _ => ?_⟩
      · rcases q with q | q
        · exact absurd z2 q
        · exact q
      · refine (s_MM_place0 (d := d + 9) hL.1 hL.2.1 kN).mono (fun y M5 h5 => ?_)
        obtain ⟨e5, hy⟩ := h5
        subst e5
        have hy32 : i32 y := by rw [hy]; exact (hL.1 _ _).1
        refine ⟨hy32, hL.1, w2.1.1, (s_MM_stop ⟨by decide, by decide⟩ hy32 hL.1 w2).mono (fun M6 h6 => ⟨h6.1.1, k_MM_items0_218 h6.1.1 ⟨h6.1.1, hI.trans (iF.mk w2 h6.1 (fun _ z => z.elim) (fun x z => Or.inl z) (fun i i1 i2 _ => h6.2.2.2 i i1 i2)), Or.inl (by rw [h6.2.1]; decide)⟩⟩)⟩
    · have he1 := ac_le hac'
      have hke := hit.2.1
      have kN : k < N := by omega
      have eN : e < N := by omega
      refine k_MM_items0_38 hL.1 ik ⟨w2.1.1, fun _ => hL.wd (d := d + 9) kN (fun x hx ix => ⟨ix, hL.1, fun q => ?_, fun _ => ⟨w2.1.1, ?_⟩⟩), fun y => absurd z2 y⟩
      · rw [wkE] at hx
        exact absurd (hx.symm.trans q) c0
      have hit2 : It (wk M2 a) k e := by rw [wkE]; exact hit
      refine hL.ue (d := d + 8) hit2 eN ⟨i32s (by omega) (by omega), hL.1, w2.1.1, hL.wd (d := d + 9) kN (fun x2 hx2 ix2 => ⟨ix2, hL.1, ?_⟩)⟩
      obtain ⟨-, -, hsh⟩ := hit2
      have go : ∀ M3, mOk M3 ∧ itQ M2 a g N (e + 1) M3 → mOk M3 ∧ h_MM_items0_183 G (d + 10) a e M3 (fun M' => mOk M' ∧ itmQ M a g N M') := fun M3 t => ⟨t.1, nxt e g' M3 hg' eN hac' t.2⟩
      refine ⟨fun q1 => ⟨w2.1.1, ?_⟩, fun q1 => ⟨fun q2 => ⟨w2.1.1, ?_⟩, fun q2 => ⟨fun q3 => ⟨w2.1.1, ?_⟩, fun q3 => ⟨w2.1.1, ?_⟩⟩⟩⟩
      · rcases hsh with ⟨y0, -, -, y1⟩ | ⟨y0, -⟩ | ⟨y0, -⟩ | ⟨y0, -⟩
        · exact (s_MM_ruleItem (d := d + 3) h y0 y1 eN hT hZ).mono go
        · omega
        · omega
        · omega
      · rcases hsh with ⟨y0, -⟩ | ⟨y0, -, -, i, y1, y2⟩ | ⟨y0, -⟩ | ⟨y0, -⟩
        · omega
        · exact (s_MM_varItem (d := d + 2) h z2 eN hT hZ y1 y2).mono go
        · omega
        · omega
      · have eo : Eo (wk M2 a) 6 (k + 1) e := by
          rcases hsh with ⟨y0, -⟩ | ⟨y0, -⟩ | ⟨y0, -⟩ | ⟨-, y⟩
          · omega
          · omega
          · omega
          · exact y
        rw [show mR M2 a 10 = g from hL.2.2.2.2.1, h17, show (k : Int) + 1 = ((k + 1 : Nat) : Int) by omega]
        refine ⟨(w2.gp hg).1, fun q4 => ?_, fun q4 => ?_⟩
        · refine (s_MM_rule1 (d := d + 3) (co := 0) (tr := 1) ⟨by decide, by decide⟩ (Or.inr rfl) hL (by omega) eo eN).mono (fun x5 M5 q5 => ?_)
          obtain ⟨ex, T5, t1, t2, Rl⟩ := q5
          subst ex
          have w5 := Rl.2.1.2.1.1.1
          refine ⟨i32s (by omega) (by omega), Rl.2.1.1, (w5.gp hg).1, fun M6 e6 => ?_⟩
          obtain ⟨I6, a6, o6, D6⟩ := h.tgt t1 Rl (by omega) e6
          refine nxt e g' M6 hg' eN hac' ⟨I6, ?_⟩
          by_cases z6 : mI M6 a 16 = 0
          · exact Or.inr ⟨z6, T5, K, R, W, C, Z, E, _, D6 (by rw [← a6]; exact z6), by omega, by omega⟩
          · exact Or.inl z6
        · refine (s_MM_place0 (d := d + 9) hL.1 hL.2.1 kN).mono (fun y M5 h5 => ?_)
          obtain ⟨e5, hy⟩ := h5
          subst e5
          have hy32 : i32 y := by rw [hy]; exact (hL.1 _ _).1
          exact ⟨hy32, hL.1, w2.1.1, (s_MM_stop ⟨by decide, by decide⟩ hy32 hL.1 w2).mono (fun M6 h6 => ⟨h6.1.1, nxt e g' M6 hg' eN hac' (st_it w2 (by decide) h6)⟩)⟩
      · rcases hsh with ⟨y0, -⟩ | ⟨y0, -⟩ | ⟨-, j, f', y1, y2, y3⟩ | ⟨y0, -⟩
        · omega
        · omega
        · exact (s_MM_commandItem (d := d) h z2 y1 y2 y3 eN hT hZ).mono go
        · omega
end ITE
end
section
/-! The reference: a game is cleared; items. -/
section CL
variable {G : mG} {d a g N : Nat} {M M2 M3 : mM}
/-- the lists of a game -/
abbrev gL9 (g : Nat) : Nat → Prop := fun x => x = g + 1 ∨ x = g + 3 ∨ x = g + 5 ∨ x = g + 7 ∨ x = g + 9 ∨ x = g + 11 ∨ x = g + 30 ∨ x = g + 32 ∨ x = g + 34
theorem gL9_in {q : Nat} (hg : g = a + 13 ∨ g = a + 49) (h : gL9 g q) : q ∈ nums a := by
  have h' : q = g + 1 ∨ q = g + 3 ∨ q = g + 5 ∨ q = g + 7 ∨ q = g + 9 ∨ q = g + 11 ∨ q = g + 30 ∨ q = g + 32 ∨ q = g + 34 := h
  by_cases z : tL g q
  · exact tL_in hg z
  · have h2 : q = g + 30 ∨ q = g + 32 ∨ q = g + 34 := by
      have z' : ¬ (q = g + 1 ∨ q = g + 3 ∨ q = g + 5 ∨ q = g + 7 ∨ q = g + 9 ∨ q = g + 11) := z
      omega
    rcases h2 with y | y | y <;> rw [y]
    · exact n30 hg
    · exact n32 hg
    · exact n34 hg
/-- a list is emptied -/
theorem clr_l {p : Nat} (hg : g = a + 13 ∨ g = a + 49) (h : Mv (gL9 g) (fun x => x = g) M a M2) (hp : gL9 g p) (e : M3 = mUI M2 p 1 0) : Mv (gL9 g) (fun x => x = g) M a M3 ∧ ln M3 p = 0 ∧ (∀ q, q ∈ nums a → q ≠ p → ln M3 q = ln M2 q) ∧ ∀ i, mI M3 g i = mI M2 g i := by
  have w2 := h.2.1
  have pn := gL9_in hg hp
  have b : 0 ≤ ln M2 p := (w2.nu pn).2.2.2.1.1
  obtain ⟨m3, l3, -, -⟩ := mv_set h.1 w2 pn (v := 0) (by omega) b e
  have a0 := goff0 hg
  refine ⟨h.trans (m3.mono (fun q hq => by rw [hq]; exact hp) (fun _ z => z.elim) (fun q hq => w2.lt (gL9_in hg hq))), l3, fun q hq hne => (m3.lst hq hne).1, fun i => ?_⟩
  rw [e, mI_UI, if_neg (fun z => a0.2.1 (by rw [z.1]; exact pn))]
theorem clr_f {i : Nat} {v : Int} (hv : i32 v) (hg : g = a + 13 ∨ g = a + 49) (h : Mv (gL9 g) (fun x => x = g) M a M2) (e : M3 = mUI M2 g i v) : Mv (gL9 g) (fun x => x = g) M a M3 ∧ (∀ q, q ∈ nums a → ln M3 q = ln M2 q) ∧ ∀ j, mI M3 g j = if j = i then v else mI M2 g j := by
  have w2 := h.2.1
  have a0 := goff0 hg
  obtain ⟨m3, f3, -⟩ := mv_cell hv h.1 w2 (show a ≤ g by omega) ⟨a0.1, a0.2.1, a0.2.2.1⟩ e
  refine ⟨h.trans (m3.mono (fun _ z => z.elim) (fun _ z => z) (fun q hq => w2.lt (gL9_in hg hq))), fun q hq => (m3.lst hq (fun z => z)).1, fun j => ?_⟩
  rw [f3]
  by_cases z : j = i
  · rw [if_pos ⟨rfl, z⟩, if_pos z]
  · rw [if_neg (fun y => z y.2), if_neg z]
/-- a game is empty -/
def clQ (M : mM) (a g : Nat) (M' : mM) : Prop := Mv (gL9 g) (fun x => x = g) M a M' ∧ (∀ q, gL9 g q → ln M' q = 0) ∧ mI M' g 6 = 0 ∧ mI M' g 12 = 0 ∧ mI M' g 17 = -1 ∧ mI M' g 18 = 0
theorem s_MG_clear (hO : mOk M) (w : Wd M a) (hg : g = a + 13 ∨ g = a + 49) : Cv G y_MG_clear (d + 1) [vr g] M (fun M' => mOk M' ∧ clQ M a g M') := by
  have gp : ∀ {Mx : mM}, Wd Mx a → mK Mx g = 16 := fun w => (w.gp hg).1
  have kn : ∀ {Mx : mM} {p : Nat}, Wd Mx a → gL9 g p → mK Mx p = 15 := fun w hp => (w.nu (gL9_in hg hp)).1
  have r0 : ∀ {Mx : mM}, Wd Mx a → mR Mx g 0 = g + 1 := fun w => (w.gp hg).2.1.1
  have r1 : ∀ {Mx : mM}, Wd Mx a → mR Mx g 1 = g + 3 := fun w => (w.gp hg).2.1.2.1
  have r2 : ∀ {Mx : mM}, Wd Mx a → mR Mx g 2 = g + 5 := fun w => (w.gp hg).2.1.2.2.1
  have r3 : ∀ {Mx : mM}, Wd Mx a → mR Mx g 3 = g + 7 := fun w => (w.gp hg).2.1.2.2.2.1
  have r4 : ∀ {Mx : mM}, Wd Mx a → mR Mx g 4 = g + 9 := fun w => (w.gp hg).2.1.2.2.2.2.1
  have r5 : ∀ {Mx : mM}, Wd Mx a → mR Mx g 5 = g + 11 := fun w => (w.gp hg).2.1.2.2.2.2.2.1
  have r27 : ∀ {Mx : mM}, Wd Mx a → mR Mx g 27 = g + 30 := fun w => (w.gp hg).2.2.1.2.2.2.2.2.2.2.2.2.2.2.2.1
  have r28 : ∀ {Mx : mM}, Wd Mx a → mR Mx g 28 = g + 32 := fun w => (w.gp hg).2.2.1.2.2.2.2.2.2.2.2.2.2.2.2.2.1
  have r29 : ∀ {Mx : mM}, Wd Mx a → mR Mx g 29 = g + 34 := fun w => (w.gp hg).2.2.1.2.2.2.2.2.2.2.2.2.2.2.2.2.2
  have i1 : g + 1 ∈ nums a := gL9_in hg (by omega)
  have i3 : g + 3 ∈ nums a := gL9_in hg (by omega)
  have i5 : g + 5 ∈ nums a := gL9_in hg (by omega)
  have i7 : g + 7 ∈ nums a := gL9_in hg (by omega)
  have i9 : g + 9 ∈ nums a := gL9_in hg (by omega)
  have i11 : g + 11 ∈ nums a := gL9_in hg (by omega)
  have i30 := n30 hg
  have i32' := n32 hg
  have i34 := n34 hg
  have m0 : Mv (gL9 g) (fun x => x = g) M a M := Mv.refl hO w (fun q hq => w.lt (gL9_in hg hq))
  refine k_MG_clear hO ?_
  rw [r0 w]
  refine ⟨gp w, kn w (by omega), fun M1 e1 => ?_⟩
  obtain ⟨m1, l1, o1, f1⟩ := clr_l hg m0 (by omega) e1
  rw [r1 m1.2.1]
  refine ⟨kn m1.2.1 (by omega), fun M2 e2 => ?_⟩
  obtain ⟨m2, l2, o2, f2⟩ := clr_l hg m1 (by omega) e2
  rw [r2 m2.2.1]
  refine ⟨kn m2.2.1 (by omega), fun M3 e3 => ?_⟩
  obtain ⟨m3, l3, o3, f3⟩ := clr_l hg m2 (by omega) e3
  rw [r3 m3.2.1]
  refine ⟨kn m3.2.1 (by omega), fun M4 e4 => ?_⟩
  obtain ⟨m4, l4, o4, f4⟩ := clr_l hg m3 (by omega) e4
  rw [r4 m4.2.1]
  refine ⟨kn m4.2.1 (by omega), fun M5 e5 => ?_⟩
  obtain ⟨m5, l5, o5, f5⟩ := clr_l hg m4 (by omega) e5
  rw [r5 m5.2.1]
  refine ⟨kn m5.2.1 (by omega), fun M6 e6 M7 e7 M8 e8 M9 e9 M10 e10 => ?_⟩
  obtain ⟨m6, l6, o6, f6⟩ := clr_l hg m5 (by omega) e6
  obtain ⟨m7, o7, f7⟩ := clr_f (v := 0) ⟨by decide, by decide⟩ hg m6 e7
  obtain ⟨m8, o8, f8⟩ := clr_f (v := 0) ⟨by decide, by decide⟩ hg m7 e8
  obtain ⟨m9, o9, f9⟩ := clr_f (v := -1) ⟨by decide, by decide⟩ hg m8 e9
  obtain ⟨m10, o10, f10⟩ := clr_f (v := 0) ⟨by decide, by decide⟩ hg m9 e10
  rw [r27 m10.2.1]
  refine ⟨kn m10.2.1 (by omega), fun M11 e11 => ?_⟩
  obtain ⟨m11, l11, o11, f11⟩ := clr_l hg m10 (by omega) e11
  rw [r28 m11.2.1]
  refine ⟨kn m11.2.1 (by omega), fun M12 e12 => ?_⟩
  obtain ⟨m12, l12, o12, f12⟩ := clr_l hg m11 (by omega) e12
  rw [r29 m12.2.1]
  refine ⟨kn m12.2.1 (by omega), fun M13 e13 => ?_⟩
  obtain ⟨m13, l13, o13, f13⟩ := clr_l hg m12 (by omega) e13
  have last : ∀ q, q ∈ nums a → q ≠ g + 30 → q ≠ g + 32 → q ≠ g + 34 → ln M13 q = ln M6 q := fun q hq h1 h2 h3 => by rw [o13 q hq h3, o12 q hq h2, o11 q hq h1, o10 q hq, o9 q hq, o8 q hq, o7 q hq]
  refine ⟨m13.1, m13, fun q hq => ?_, ?_, ?_, ?_, ?_⟩
  · have h' : q = g + 1 ∨ q = g + 3 ∨ q = g + 5 ∨ q = g + 7 ∨ q = g + 9 ∨ q = g + 11 ∨ q = g + 30 ∨ q = g + 32 ∨ q = g + 34 := hq
    rcases h' with y | y | y | y | y | y | y | y | y <;> rw [y]
    · rw [last _ i1 (by omega) (by omega) (by omega), o6 _ i1 (by omega), o5 _ i1 (by omega), o4 _ i1 (by omega), o3 _ i1 (by omega), o2 _ i1 (by omega), l1]
    · rw [last _ i3 (by omega) (by omega) (by omega), o6 _ i3 (by omega), o5 _ i3 (by omega), o4 _ i3 (by omega), o3 _ i3 (by omega), l2]
    · rw [last _ i5 (by omega) (by omega) (by omega), o6 _ i5 (by omega), o5 _ i5 (by omega), o4 _ i5 (by omega), l3]
    · rw [last _ i7 (by omega) (by omega) (by omega), o6 _ i7 (by omega), o5 _ i7 (by omega), l4]
    · rw [last _ i9 (by omega) (by omega) (by omega), o6 _ i9 (by omega), l5]
    · rw [last _ i11 (by omega) (by omega) (by omega), l6]
    · rw [o13 _ i30 (by omega), o12 _ i30 (by omega), l11]
    · rw [o13 _ i32' (by omega), l12]
    · exact l13
  · rw [f13, f12, f11, f10, if_neg (by omega), f9, if_neg (by omega), f8, if_neg (by omega), f7, if_pos rfl]
  · rw [f13, f12, f11, f10, if_neg (by omega), f9, if_neg (by omega), f8, if_pos rfl]
  · rw [f13, f12, f11, f10, if_neg (by omega), f9, if_pos rfl]
  · rw [f13, f12, f11, f10, if_pos rfl]
theorem s_MM_items0 {f : Nat} (hO : mOk M) (hx : Wx M a N) (h10 : mR M a 10 = g) (hg : g = a + 13 ∨ g = a + 49) (hac : Ac (wk M a) N f [50] 0) : Cv G y_MM_items0 (d + 11) [vr a] M (fun M' => mOk M' ∧ itmQ M a g N M') := by
  have w := hx.1.1
  have hN := hx.1.2.2
  have r13 : ∀ {M3 : mM}, Wd M3 a → mR M3 a 13 = a + 85 := fun w => w.1.2.2.2.2.1.1
  have r14 : ∀ {M3 : mM}, Wd M3 a → mR M3 a 14 = a + 87 := fun w => w.1.2.2.2.2.1.2.1
  have r15 : ∀ {M3 : mM}, Wd M3 a → mR M3 a 15 = a + 89 := fun w => w.1.2.2.2.2.1.2.2.1
  refine k_MM_items0 hO ?_
  rw [h10]
  refine ⟨w.1.1, (w.gp hg).1, (s_MG_clear (d := d + 9) hO w hg).mono (fun M1 t1 => ?_)⟩
  obtain ⟨o1, m1, c1, c6, c12, c17, c18⟩ := t1
  have w1 := m1.2.1
  have hin1 : ∀ q, gL9 g q → q ∈ nums a := fun q hq => gL9_in hg hq
  have aI1 := (m1.fld w hin1 (by omega)).1
  have g9 : ∀ {q}, gL9 g q → itP a g q := fun {q} hq => ⟨gL9_in hg hq, by have : q = g + 1 ∨ q = g + 3 ∨ q = g + 5 ∨ q = g + 7 ∨ q = g + 9 ∨ q = g + 11 ∨ q = g + 30 ∨ q = g + 32 ∨ q = g + 34 := hq; omega⟩
  have I1 : iF M a g M1 := iF.mk w m1 (fun q hq => g9 hq) (fun x z => Or.inr (Or.inl (by omega))) (fun i _ _ _ => by rw [aI1])
  have nset : ∀ {p : Nat} {Mx My : mM}, p = a + 85 ∨ p = a + 87 ∨ p = a + 89 → iF M a g Mx → mI Mx g = mI M1 g → (∀ q, gL9 g q → ln Mx q = 0) → My = mUI Mx p 1 0 → iF M a g My ∧ mI My g = mI M1 g ∧ (∀ q, gL9 g q → ln My q = 0) ∧ ln My p = 0 ∧ (∀ q, q ∈ nums a → q ≠ p → ln My q = ln Mx q) := fun {p Mx My} hp hI hgI hz he => by
    have wx := hI.1.2.1
    have pn : p ∈ nums a := by rcases hp with y | y | y <;> rw [y]; exact n85; exact n87; exact n89
    have b : 0 ≤ ln Mx p := (wx.nu pn).2.2.2.1.1
    obtain ⟨m3, l3, -, -⟩ := mv_set hI.1.1 wx pn (v := 0) (by omega) b he
    have hin : ∀ q, q = p → q ∈ nums a := fun q hq => by rw [hq]; exact pn
    refine ⟨hI.trans (iF.mk wx m3 (fun q hq => ⟨hin q hq, by omega⟩) (fun _ z => z.elim) (fun i _ _ _ => by rw [(m3.fld wx hin (fun z => z)).1])), (m3.gI wx hg hin (fun z => z)).trans hgI, fun q hq => ?_, l3, fun q hq hne => (m3.lst hq hne).1⟩
    have hq' : q = g + 1 ∨ q = g + 3 ∨ q = g + 5 ∨ q = g + 7 ∨ q = g + 9 ∨ q = g + 11 ∨ q = g + 30 ∨ q = g + 32 ∨ q = g + 34 := hq
    rw [(m3.lst (gL9_in hg hq) (by omega)).1]
    exact hz q hq
  rw [r13 w1]
  refine ⟨o1, w1.1.1, (w1.nu n85).1, fun M2 e2 => ?_⟩
  obtain ⟨I2, g2, z2, l2, u2⟩ := nset (Or.inl rfl) I1 rfl c1 e2
  have w2 := I2.1.2.1
  rw [r14 w2]
  refine ⟨(w2.nu n87).1, fun M3 e3 => ?_⟩
  obtain ⟨I3, g3, z3, l3, u3⟩ := nset (Or.inr (Or.inl rfl)) I2 g2 z2 e3
  have w3 := I3.1.2.1
  rw [r15 w3]
  refine ⟨(w3.nu n89).1, fun M4 e4 M5 e5 => ?_⟩
  obtain ⟨I4, g4, z4, l4, u4⟩ := nset (Or.inr (Or.inr rfl)) I3 g3 z3 e4
  have w4 := I4.1.2.1
  obtain ⟨m5, f5⟩ := mv_fld (v := 0) ⟨by decide, by decide⟩ I4.1.1 w4 e5
  have no : ∀ q : Nat, False → q ∈ nums a := fun _ z => z.elim
  have g5 : mI M5 g = mI M1 g := (m5.gI w4 hg no (by omega)).trans g4
  have I5 : iF M a g M5 := I4.trans (iF.mk w4 m5 (fun _ z => z.elim) (fun x z => Or.inl z) (fun i i1 _ _ => by rw [f5, if_neg i1]))
  have s5 : ∀ {q}, q ∈ nums a → ln M5 q = ln M4 q := fun hq => (m5.lst hq (fun z => z)).1
  have k85 : ln M5 (a + 85) = 0 := by rw [s5 n85, u4 _ n85 (by omega), u3 _ n85 (by omega), l2]
  have k87 : ln M5 (a + 87) = 0 := by rw [s5 n87, u4 _ n87 (by omega), l3]
  have k89 : ln M5 (a + 89) = 0 := by rw [s5 n89, l4]
  have hin5 : ∀ q, itP a g q → q ∈ nums a := fun q hq => hq.1
  have t2 : ¬ itP a g (mR M a 2) := fun z => by
    have := z.2
    rcases w.1.2.1 with y | y <;> rw [y.2] at this <;> omega
  have x5 : Wx M5 a N := hx.mv I5.1 hin5 (fun z => by have := z.2; omega) (fun z => by have := z.2; omega) (fun z => by have := z.2; omega) t2
  have h105 : mR M5 a 10 = g := by rw [I5.1.rfl_a w hin5]; exact h10
  have L5 : Lc M5 a g N 0 0 := ⟨I5.1.1, x5, ⟨k85, k87, k89, by omega, fun k hk => absurd hk (by omega)⟩, fun q hq => by rw [s5 (tL_in hg hq), z4 q (by have : q = g + 1 ∨ q = g + 3 ∨ q = g + 5 ∨ q = g + 7 ∨ q = g + 9 ∨ q = g + 11 := hq; omega)]; rfl, h105, hg, by rw [g5, c6, c12]; omega, by omega⟩
  have D5 : Df M5 a g N 0 0 0 0 0 0 (fun _ => 0) (-1) := ⟨L5, ⟨by rw [g5, c6]; rfl, by rw [g5, c12]; rfl, by rw [g5, c18]; rfl, by rw [g5, c17]⟩, ⟨by rw [s5 (n30 hg), z4 _ (by omega)]; rfl, by rw [s5 (n32 hg), z4 _ (by omega)]; rfl, by rw [s5 (n34 hg), z4 _ (by omega)]; rfl⟩, rfl, ⟨⟨by omega, by omega, by omega⟩, fun r hr => absurd hr (by omega), fun r hr => absurd hr (by omega), fun r hr => absurd hr (by omega), fun r hr => absurd hr (by omega), fun r hr => absurd hr (by omega), Or.inl rfl⟩⟩
  exact s_it_run hN hg f 0 M5 hac I5 (by rw [f5, if_pos rfl]) ⟨0, 0, 0, 0, 0, 0, fun _ => 0, -1, D5, Nat.le_refl _, Nat.le_refl _⟩
end CL
end
section
/-! The reference's tree of a rule: pure. S sorts, A places, V values, F first parts, B brothers of nodes. -/
/-- the nodes n to e - 1 are the tree of the words i to j - 1; c = 1: brothers, one for each part of a list, the last one's brother is x -/
def Td (w pl nv S A V F B : Nat → Int) (c : Nat) (x : Int) (i j n e : Nat) : Prop :=
  haveI := Classical.propDecidable (lin w i j)
  if hij : i < j then
    if hc : c = 1 then
      if hp : lcq w i (j - i) = 0 then Td w pl nv S A V F B 0 0 i j n e ∧ B n = x
      else ∃ m : Nat, Td w pl nv S A V F B 1 (m : Int) i (i + lcq w i (j - i) - 1) n m ∧ Td w pl nv S A V F B 0 0 (i + lcq w i (j - i)) j m e ∧ B m = x
    else if hm : lin w i j then
      if w (loq w i j) = 32 then ∃ a b : Nat, (S n = w (loq w i j) ∧ A n = pl (loq w i j) ∧ F n = ((n + 1 : Nat) : Int)) ∧ Td w pl nv S A V F B 0 0 i (loq w i j) (n + 1) a ∧ B (n + 1) = (a : Int) ∧ Td w pl nv S A V F B 0 0 (loq w i j + 1) (clq w (loq w i j) j) a b ∧ B a = (b : Int) ∧ Td w pl nv S A V F B 0 0 (clq w (loq w i j) j + 1) j b e ∧ B b = -1
      else ∃ a : Nat, (S n = w (loq w i j) ∧ A n = pl (loq w i j) ∧ F n = ((n + 1 : Nat) : Int)) ∧ Td w pl nv S A V F B 0 0 i (loq w i j) (n + 1) a ∧ B (n + 1) = (a : Int) ∧ Td w pl nv S A V F B 0 0 (loq w i j + 1) j a e ∧ B a = -1
    else if w i = 36 then Td w pl nv S A V F B 0 0 (i + 1) (j - 1) n e
    else if w i = 25 ∨ w i = 31 then (S n = (if w i = 25 then 45 else 31) ∧ A n = pl i ∧ F n = ((n + 1 : Nat) : Int)) ∧ Td w pl nv S A V F B 0 0 (i + 1) j (n + 1) e ∧ B (n + 1) = -1
    else if w i = 14 ∨ w i = 15 then (S n = w i ∧ A n = pl i ∧ F n = ((n + 1 : Nat) : Int)) ∧ Td w pl nv S A V F B 1 (-1) (i + 2) (j - 1) (n + 1) e
    else e = n + 1 ∧ S n = w i ∧ A n = pl i ∧ F n = -1 ∧ V n = nv i
  else False
termination_by 2 * (j - i) + c
decreasing_by
  all_goals simp_wf
  all_goals have a1 := lcq_le (w := w) (i := i) (j - i)
  all_goals have a2 := clq_b (w := w) (m := loq w i j) (j := j)
  all_goals first | omega | (have a3 := hm.2; omega)
section TDE
variable {w pl nv S A V F B S' A' V' F' B' : Nat → Int} {i j m n e : Nat} {x : Int}
theorem Td_bin (h : lo w i j = (m : Int)) (h1 : i ≤ m) (h2 : m < j) (h3 : w m ≠ 32) : Td w pl nv S A V F B 0 x i j n e ↔ ∃ a : Nat, (S n = w m ∧ A n = pl m ∧ F n = ((n + 1 : Nat) : Int)) ∧ Td w pl nv S A V F B 0 0 i m (n + 1) a ∧ B (n + 1) = (a : Int) ∧ Td w pl nv S A V F B 0 0 (m + 1) j a e ∧ B a = -1 := by
  obtain ⟨a, b⟩ := lin_of h h1 h2
  rw [Td, dif_pos (by omega), dif_neg (by decide), dif_pos a, b, if_neg h3]
theorem Td_ask {q : Nat} (h : lo w i j = (m : Int)) (h1 : i ≤ m) (h2 : m < j) (h3 : w m = 32) (hq : clq w m j = q) : Td w pl nv S A V F B 0 x i j n e ↔ ∃ a b : Nat, (S n = w m ∧ A n = pl m ∧ F n = ((n + 1 : Nat) : Int)) ∧ Td w pl nv S A V F B 0 0 i m (n + 1) a ∧ B (n + 1) = (a : Int) ∧ Td w pl nv S A V F B 0 0 (m + 1) q a b ∧ B a = (b : Int) ∧ Td w pl nv S A V F B 0 0 (q + 1) j b e ∧ B b = -1 := by
  obtain ⟨a, b⟩ := lin_of h h1 h2
  rw [Td, dif_pos (by omega), dif_neg (by decide), dif_pos a, b, if_pos h3, hq]
theorem Td_par (h : lo w i j = -1) (hij : i < j) (h3 : w i = 36) : Td w pl nv S A V F B 0 x i j n e ↔ Td w pl nv S A V F B 0 0 (i + 1) (j - 1) n e := by
  rw [Td, dif_pos hij, dif_neg (by decide), dif_neg (lin_no h), if_pos h3]
theorem Td_pre (h : lo w i j = -1) (hij : i < j) (h3 : w i = 25 ∨ w i = 31) : Td w pl nv S A V F B 0 x i j n e ↔ (S n = (if w i = 25 then 45 else 31) ∧ A n = pl i ∧ F n = ((n + 1 : Nat) : Int)) ∧ Td w pl nv S A V F B 0 0 (i + 1) j (n + 1) e ∧ B (n + 1) = -1 := by
  rw [Td, dif_pos hij, dif_neg (by decide), dif_neg (lin_no h), if_neg (by omega), if_pos h3]
theorem Td_lst (h : lo w i j = -1) (hij : i < j) (h3 : w i = 14 ∨ w i = 15) : Td w pl nv S A V F B 0 x i j n e ↔ (S n = w i ∧ A n = pl i ∧ F n = ((n + 1 : Nat) : Int)) ∧ Td w pl nv S A V F B 1 (-1) (i + 2) (j - 1) (n + 1) e := by
  rw [Td, dif_pos hij, dif_neg (by decide), dif_neg (lin_no h), if_neg (by omega), if_neg (by omega), if_pos h3]
theorem Td_leaf (h : lo w i j = -1) (hij : i < j) (h3 : w i = 1 ∨ w i = 2 ∨ w i = 12 ∨ w i = 13) : Td w pl nv S A V F B 0 x i j n e ↔ e = n + 1 ∧ S n = w i ∧ A n = pl i ∧ F n = -1 ∧ V n = nv i := by
  rw [Td, dif_pos hij, dif_neg (by decide), dif_neg (lin_no h), if_neg (by omega), if_neg (by omega), if_neg (by omega)]
theorem Td_l1 (hij : i < j) (h : lcq w i (j - i) = 0) : Td w pl nv S A V F B 1 x i j n e ↔ Td w pl nv S A V F B 0 0 i j n e ∧ B n = x := by
  rw [Td, dif_pos hij, dif_pos rfl, dif_pos h]
theorem Td_ln (hij : i < j) (h : lcq w i (j - i) = m - i + 1) (hm : i ≤ m) : Td w pl nv S A V F B 1 x i j n e ↔ ∃ k : Nat, Td w pl nv S A V F B 1 (k : Int) i m n k ∧ Td w pl nv S A V F B 0 0 (m + 1) j k e ∧ B k = x := by
  rw [Td, dif_pos hij, dif_pos rfl, dif_neg (by omega), h, show i + (m - i + 1) - 1 = m by omega, show i + (m - i + 1) = m + 1 by omega]
theorem Td_lt : ∀ (f c i j : Nat), 2 * (j - i) + c ≤ f → Eoc w c i j → ∀ (x : Int) (n e : Nat), Td w pl nv S A V F B c x i j n e → n < e ∧ e ≤ n + (j - i) := by
  refine Eo_ind (P := fun c i j => ∀ (x : Int) (n e : Nat), Td w pl nv S A V F B c x i j n e → n < e ∧ e ≤ n + (j - i)) ?_ ?_ ?_ ?_ ?_ ?_ ?_ ?_
  · intro i m q j h1 h2 h3 h4 h5 h6 h7 h8 _ _ _ i1 i2 i3 x n e ht
    rw [Td_ask h1 h2 h3 h6 h8] at ht
    obtain ⟨a, b, -, t1, -, t2, -, t3, -⟩ := ht
    have := i1 _ _ _ t1
    have := i2 _ _ _ t2
    have := i3 _ _ _ t3
    omega
  · intro i m j h1 h2 h3 h4 _ _ i1 i2 x n e ht
    rw [Td_bin h1 h2 h3 (by omega)] at ht
    obtain ⟨a, -, t1, -, t2, -⟩ := ht
    have := i1 _ _ _ t1
    have := i2 _ _ _ t2
    omega
  · intro i j h1 h2 h3 _ _ i1 x n e ht
    rw [Td_par h1 h2 h3] at ht
    have := i1 _ _ _ ht
    omega
  · intro i j h1 h2 h3 _ i1 x n e ht
    rw [Td_pre h1 h2 h3] at ht
    have := i1 _ _ _ ht.2.1
    omega
  · intro i h1 h3 x n e ht
    rw [Td_leaf h1 (by omega) h3] at ht
    omega
  · intro i j h1 h2 h3 _ _ i1 x n e ht
    rw [Td_lst h1 h2 h3] at ht
    have := i1 _ _ _ ht.2
    omega
  · intro i j h1 h2 _ i1 x n e ht
    rw [Td_l1 h1 h2] at ht
    exact i1 _ _ _ ht.1
  · intro i m j h1 h2 h3 h4 h5 _ _ i1 i2 x n e ht
    rw [Td_ln h1 h4 h2] at ht
    obtain ⟨k, t1, t2, -⟩ := ht
    have := i1 _ _ _ t1
    have := i2 _ _ _ t2
    omega
theorem Td.lt {c : Nat} (h : Td w pl nv S A V F B c x i j n e) (he : Eoc w c i j) : n < e ∧ e ≤ n + (j - i) := Td_lt _ c i j (Nat.le_refl _) he x n e h
/-- the same nodes, the same tree -/
theorem Td_cg : ∀ (f c i j : Nat), 2 * (j - i) + c ≤ f → Eoc w c i j → ∀ (x : Int) (n e : Nat), Td w pl nv S A V F B c x i j n e → (∀ k, n ≤ k → k < e → S' k = S k ∧ A' k = A k ∧ V' k = V k ∧ F' k = F k) → (∀ k, n < k → k < e → B' k = B k) → (c = 1 → B' n = B n) → Td w pl nv S' A' V' F' B' c x i j n e := by
  refine Eo_ind (P := fun c i j => ∀ (x : Int) (n e : Nat), Td w pl nv S A V F B c x i j n e → (∀ k, n ≤ k → k < e → S' k = S k ∧ A' k = A k ∧ V' k = V k ∧ F' k = F k) → (∀ k, n < k → k < e → B' k = B k) → (c = 1 → B' n = B n) → Td w pl nv S' A' V' F' B' c x i j n e) ?_ ?_ ?_ ?_ ?_ ?_ ?_ ?_
  · intro i m q j h1 h2 h3 h4 h5 h6 h7 h8 o1 o2 o3 i1 i2 i3 x n e ht g1 g2 g3
    rw [Td_ask h1 h2 h3 h6 h8] at ht ⊢
    obtain ⟨a, b, ⟨s1, s2, s3⟩, t1, b1, t2, b2, t3, b3⟩ := ht
    have l1 := t1.lt (Or.inl ⟨rfl, o1⟩)
    have l2 := t2.lt (Or.inl ⟨rfl, o2⟩)
    have l3 := t3.lt (Or.inl ⟨rfl, o3⟩)
    obtain ⟨k1, k2, -, k4⟩ := g1 n (Nat.le_refl _) (by omega)
    exact ⟨a, b, ⟨by rw [k1]; exact s1, by rw [k2]; exact s2, by rw [k4]; exact s3⟩, i1 _ _ _ t1 (fun k u v => g1 k (by omega) (by omega)) (fun k u v => g2 k (by omega) (by omega)) (fun u => absurd u (by decide)), by rw [g2 _ (by omega) (by omega)]; exact b1, i2 _ _ _ t2 (fun k u v => g1 k (by omega) (by omega)) (fun k u v => g2 k (by omega) (by omega)) (fun u => absurd u (by decide)), by rw [g2 _ (by omega) (by omega)]; exact b2, i3 _ _ _ t3 (fun k u v => g1 k (by omega) (by omega)) (fun k u v => g2 k (by omega) (by omega)) (fun u => absurd u (by decide)), by rw [g2 _ (by omega) (by omega)]; exact b3⟩
  · intro i m j h1 h2 h3 h4 o1 o2 i1 i2 x n e ht g1 g2 g3
    rw [Td_bin h1 h2 h3 (by omega)] at ht ⊢
    obtain ⟨a, ⟨s1, s2, s3⟩, t1, b1, t2, b2⟩ := ht
    have l1 := t1.lt (Or.inl ⟨rfl, o1⟩)
    have l2 := t2.lt (Or.inl ⟨rfl, o2⟩)
    obtain ⟨k1, k2, -, k4⟩ := g1 n (Nat.le_refl _) (by omega)
    exact ⟨a, ⟨by rw [k1]; exact s1, by rw [k2]; exact s2, by rw [k4]; exact s3⟩, i1 _ _ _ t1 (fun k u v => g1 k (by omega) (by omega)) (fun k u v => g2 k (by omega) (by omega)) (fun u => absurd u (by decide)), by rw [g2 _ (by omega) (by omega)]; exact b1, i2 _ _ _ t2 (fun k u v => g1 k (by omega) (by omega)) (fun k u v => g2 k (by omega) (by omega)) (fun u => absurd u (by decide)), by rw [g2 _ (by omega) (by omega)]; exact b2⟩
  · intro i j h1 h2 h3 _ _ i1 x n e ht g1 g2 g3
    rw [Td_par h1 h2 h3] at ht ⊢
    exact i1 _ _ _ ht g1 g2 (fun u => absurd u (by decide))
  · intro i j h1 h2 h3 o1 i1 x n e ht g1 g2 g3
    rw [Td_pre h1 h2 h3] at ht ⊢
    obtain ⟨⟨s1, s2, s3⟩, t1, b1⟩ := ht
    have l1 := t1.lt (Or.inl ⟨rfl, o1⟩)
    obtain ⟨k1, k2, -, k4⟩ := g1 n (Nat.le_refl _) (by omega)
    exact ⟨⟨by rw [k1]; exact s1, by rw [k2]; exact s2, by rw [k4]; exact s3⟩, i1 _ _ _ t1 (fun k u v => g1 k (by omega) (by omega)) (fun k u v => g2 k (by omega) (by omega)) (fun u => absurd u (by decide)), by rw [g2 _ (by omega) (by omega)]; exact b1⟩
  · intro i h1 h3 x n e ht g1 g2 g3
    rw [Td_leaf h1 (by omega) h3] at ht ⊢
    obtain ⟨rfl, s1, s2, s3, s4⟩ := ht
    obtain ⟨k1, k2, k3, k4⟩ := g1 n (Nat.le_refl _) (by omega)
    exact ⟨rfl, by rw [k1]; exact s1, by rw [k2]; exact s2, by rw [k4]; exact s3, by rw [k3]; exact s4⟩
  · intro i j h1 h2 h3 _ o1 i1 x n e ht g1 g2 g3
    rw [Td_lst h1 h2 h3] at ht ⊢
    obtain ⟨⟨s1, s2, s3⟩, t1⟩ := ht
    have l1 := t1.lt (Or.inr ⟨rfl, o1⟩)
    obtain ⟨k1, k2, -, k4⟩ := g1 n (Nat.le_refl _) (by omega)
    exact ⟨⟨by rw [k1]; exact s1, by rw [k2]; exact s2, by rw [k4]; exact s3⟩, i1 _ _ _ t1 (fun k u v => g1 k (by omega) (by omega)) (fun k u v => g2 k (by omega) (by omega)) (fun _ => g2 _ (by omega) (by omega))⟩
  · intro i j h1 h2 _ i1 x n e ht g1 g2 g3
    rw [Td_l1 h1 h2] at ht ⊢
    exact ⟨i1 _ _ _ ht.1 g1 g2 (fun u => absurd u (by decide)), by rw [g3 rfl]; exact ht.2⟩
  · intro i m j h1 h2 h3 h4 h5 o1 o2 i1 i2 x n e ht g1 g2 g3
    rw [Td_ln h1 h4 h2] at ht ⊢
    obtain ⟨k, t1, t2, b1⟩ := ht
    have l1 := t1.lt (Or.inr ⟨rfl, o1⟩)
    have l2 := t2.lt (Or.inl ⟨rfl, o2⟩)
    exact ⟨k, i1 _ _ _ t1 (fun k u v => g1 k (by omega) (by omega)) (fun k u v => g2 k (by omega) (by omega)) (fun _ => g3 rfl), i2 _ _ _ t2 (fun k u v => g1 k (by omega) (by omega)) (fun k u v => g2 k (by omega) (by omega)) (fun u => absurd u (by decide)), by rw [g2 _ (by omega) (by omega)]; exact b1⟩
theorem Td.cg {c : Nat} (h : Td w pl nv S A V F B c x i j n e) (he : Eoc w c i j) (g1 : ∀ k, n ≤ k → k < e → S' k = S k ∧ A' k = A k ∧ V' k = V k ∧ F' k = F k) (g2 : ∀ k, n < k → k < e → B' k = B k) (g3 : c = 1 → B' n = B n) : Td w pl nv S' A' V' F' B' c x i j n e := Td_cg _ c i j (Nat.le_refl _) he x n e h g1 g2 g3
/-- brothers, one for each of a list of parts; the last one's brother is x -/
def Tbq (w pl nv S A V F B : Nat → Int) (x : Int) : List (Nat × Nat) → Nat → Nat → Prop
  | [], _, _ => False
  | [(i, j)], n, e => Td w pl nv S A V F B 0 0 i j n e ∧ B n = x
  | (i, j) :: r :: rs, n, e => ∃ m : Nat, Td w pl nv S A V F B 0 0 i j n m ∧ B n = (m : Int) ∧ Tbq w pl nv S A V F B x (r :: rs) m e
/-- brothers by their last one -/
theorem Tbq.snoc {i' j' : Nat} : ∀ (rs : List (Nat × Nat)) {n e : Nat}, rs ≠ [] → Tbq w pl nv S A V F B x (rs ++ [(i', j')]) n e → ∃ m : Nat, Tbq w pl nv S A V F B (m : Int) rs n m ∧ Td w pl nv S A V F B 0 0 i' j' m e ∧ B m = x
  | [], _, _, h, _ => absurd rfl h
  | [(i, j)], n, e, _, h => by
    obtain ⟨m, h1, h2, h3⟩ := h
    exact ⟨m, ⟨h1, h2⟩, h3.1, h3.2⟩
  | (i, j) :: r :: rs, n, e, _, h => by
    obtain ⟨m, h1, h2, h3⟩ := h
    obtain ⟨k, k1, k2, k3⟩ := Tbq.snoc (r :: rs) (by simp) h3
    exact ⟨k, ⟨m, h1, h2, k1⟩, k2, k3⟩
/-- the parts of a list, by its last comma -/
def JM (w : Nat → Int) : Nat → Nat → Nat → List (Nat × Nat) → Prop
  | 0, _, _, _ => False
  | f + 1, i, j, rs => (rs = [(i, j)] ∧ Eo w 6 i j) ∨ ∃ (m : Nat) (r2 : List (Nat × Nat)), w m = 35 ∧ Eo w 7 i m ∧ Eo w 6 (m + 1) j ∧ rs = r2 ++ [(m + 1, j)] ∧ JM w f i m r2
theorem JM.ne : ∀ {f i j : Nat} {rs : List (Nat × Nat)}, JM w f i j rs → rs ≠ []
  | 0, _, _, _, h => h.elim
  | f + 1, i, j, rs, h => by
    rcases h with ⟨h, -⟩ | ⟨m, r2, -, -, -, h, -⟩
    · rw [h]; simp
    · rw [h]; simp
theorem JM.all : ∀ {f i j : Nat} {rs : List (Nat × Nat)}, JM w f i j rs → (∀ i' j', (i', j') ∈ rs → Eo w 6 i' j' ∧ j' ≤ j ∧ j' - i' ≤ j - i)
  | 0, _, _, _, h => h.elim
  | f + 1, i, j, rs, h => by
    intro i' j' q
    rcases h with ⟨h, he⟩ | ⟨m, r2, h1, h2, h3, h4, h5⟩
    · rw [h] at q
      obtain ⟨q1, q2⟩ := Prod.mk.inj (List.mem_singleton.1 q)
      subst q1 q2
      exact ⟨he, Nat.le_refl _, Nat.le_refl _⟩
    · have p2 := h2.pr.1
      have p3 := h3.pr.1
      rw [h4] at q
      rcases List.mem_append.1 q with q | q
      · have := JM.all h5 i' j' q
        exact ⟨this.1, by omega, by omega⟩
      · obtain ⟨q1, q2⟩ := Prod.mk.inj (List.mem_singleton.1 q)
        subst q1 q2
        exact ⟨h3, Nat.le_refl _, by omega⟩
theorem tb_td : ∀ {f i j : Nat} {rs : List (Nat × Nat)} {x : Int} {n e : Nat}, JM w f i j rs → Tbq w pl nv S A V F B x rs n e → Td w pl nv S A V F B 1 x i j n e
  | 0, _, _, _, _, _, _, h, _ => h.elim
  | f + 1, i, j, rs, x, n, e, h, t => by
    rcases h with ⟨h, he⟩ | ⟨m, r2, h1, h2, h3, h4, h5⟩
    · subst h
      rw [Td_l1 he.pr.1 (lcq_eo he (by omega))]
      exact t
    · subst h4
      have p2 := h2.pr.1
      have p3 := h3.pr.1
      obtain ⟨k, k1, k2, k3⟩ := Tbq.snoc r2 h5.ne t
      rw [Td_ln (m := m) (by omega) (lcq_7 h2 h1 h3) (by omega)]
      exact ⟨k, tb_td h5 k1, k2, k3⟩
end TDE
end
section
/-! The reference's trees, exactly: node, job, join, list, numberOf. -/
section NDX
variable {G : mG} {d a N g T : Nat} {M M1 M2 : mM}
abbrev pm (M : mM) (g : Nat) : Nat → Int := nt M (g + 3)
/-- same trees, with their places -/
def sameX (M2 M3 : mM) (g : Nat) : Prop := sameT M2 M3 g ∧ ∀ n, pm M3 g n = pm M2 g n
theorem sameX.trans {M1 M2 M3 : mM} (h : sameX M1 M2 g) (k : sameX M2 M3 g) : sameX M1 M3 g := ⟨h.1.trans k.1, fun n => (k.2 n).trans (h.2 n)⟩
def jnX (M2 : mM) (g T : Nat) (p : Int) (x : Nat) (M3 : mM) : Prop := jnQ M2 g T p x M3 ∧ ∀ n, pm M3 g n = pm M2 g n
theorem x_MM_node {s : Int} {wd fr : Nat} (hs : i32 s) (hO : mOk M) (h : Wx M a N) (hw : wd < N) (hf : fr < N) (hg : g = a + 13 ∨ g = a + 49) (hd : mR M a 10 = g) (hn : nd M g T) (hT : T ≤ 32768) : Ci G y_MM_node (d + 2) [vr a, vi s, vi wd, vi fr] M (fun r M' => Mv (tL g) (fun _ => False) M a M' ∧ r = T ∧ nd M' g (T + 1) ∧ (∀ n, n < T → so M' g n = so M g n ∧ va M' g n = va M g n ∧ fp M' g n = fp M g n ∧ np M' g n = np M g n) ∧ so M' g T = s ∧ va M' g T = 0 ∧ fp M' g T = -1 ∧ np M' g T = -1 ∧ pm M' g T = nt M (a + 7) wd ∧ ∀ n, n < T → pm M' g n = pm M g n) := by
  have hwd := h.1.1
  have hN := h.1.2.2
  have hi : ∀ q, tL g q → q ∈ nums a := fun q hq => tL_in hg hq
  have hlt : ∀ (M2 : mM), Wd M2 a → ∀ q, tL g q → q < mZ M2 := fun M2 w q hq => w.lt (hi q hq)
  have sub : ∀ (M2 M3 : mM) (q : Nat) (v : Int), tL g q → Wd M2 a → adQ M2 q v M3 → Mv (tL g) (fun _ => False) M2 a M3 := fun M2 M3 q v hq w t => (mv_add w (hi q hq) t).mono (fun x hx => by rw [hx]; exact hq) (fun x hx => hx) (hlt M2 w)
  have oth : ∀ (M2 M3 : mM) (q r : Nat) (v : Int), tL g q → tL g r → r ≠ q → Wd M2 a → adQ M2 q v M3 → sameN M2 M3 r := fun M2 M3 q r v hq hr hne w t => (mv_add w (hi q hq) t).lst (hi r hr) hne
  have g1 : tL g (g + 1) := by omega
  have g3 : tL g (g + 3) := by omega
  have g5 : tL g (g + 5) := by omega
  have g7 : tL g (g + 7) := by omega
  have g9 : tL g (g + 9) := by omega
  have g11 : tL g (g + 11) := by omega
  have gr : ∀ (M2 : mM), Wd M2 a → mK M2 g = 16 ∧ mR M2 g 0 = g + 1 ∧ mR M2 g 1 = g + 3 ∧ mR M2 g 2 = g + 5 ∧ mR M2 g 3 = g + 7 ∧ mR M2 g 4 = g + 9 ∧ mR M2 g 5 = g + 11 := fun M2 w => by
    have k := w.gp hg
    exact ⟨k.1, k.2.1.1, k.2.1.2.1, k.2.1.2.2.1, k.2.1.2.2.2.1, k.2.1.2.2.2.2.1, k.2.1.2.2.2.2.2.1⟩
  refine k_MM_node hO hs (i32s (by omega) (by omega)) (i32s (by omega) (by omega)) ?_
  rw [hd, (gr M hwd).2.1]
  refine ⟨hwd.1.1, (gr M hwd).1, (hwd.nu (hi _ g1)).1, (s_MN_add hs hO (hwd.nu (hi _ g1)) (by rw [hn _ g1]; omega)).mono (fun M1 t1 => ?_)⟩
  have m1 := sub M M1 _ _ g1 hwd t1
  have w1 := m1.2.1
  have d1 : mR M1 a 10 = g := by rw [m1.rfl_a hwd hi]; exact hd
  have x1 := h.mv m1 hi (tL_no hg hwd).1 (tL_no hg hwd).2.1 (tL_no hg hwd).2.2.1 (tL_no hg hwd).2.2.2.1
  rw [d1, (gr M1 w1).2.2.1]
  refine ⟨m1.1, w1.1.1, (gr M1 w1).1, (s_MM_place0 (d := d) m1.1 x1 hw).mono (fun y M2 h2 => ?_)⟩
  obtain ⟨e2, hy⟩ := h2
  subst e2
  have hy32 : i32 y := by rw [hy]; exact (m1.1 _ _).1
  have s13 := oth M M2 _ (g + 3) _ g1 g3 (by omega) hwd t1
  refine ⟨hy32, m1.1, (w1.nu (hi _ g3)).1, (s_MN_add hy32 m1.1 (w1.nu (hi _ g3)) (by rw [s13.1, hn _ g3]; omega)).mono (fun M3 t3 => ?_)⟩
  have m3 := sub M2 M3 _ _ g3 w1 t3
  have w3 := m3.2.1
  have d3 : mR M3 a 10 = g := by rw [m3.rfl_a w1 hi]; exact d1
  have x3 := x1.mv m3 hi (tL_no hg w1).1 (tL_no hg w1).2.1 (tL_no hg w1).2.2.1 (tL_no hg w1).2.2.2.1
  rw [d3, (gr M3 w3).2.2.2.1]
  refine ⟨m3.1, w3.1.1, (gr M3 w3).1, (s_MM_place0 (d := d) m3.1 x3 hf).mono (fun z M4 h4 => ?_)⟩
  obtain ⟨e4, hz⟩ := h4
  subst e4
  have hz32 : i32 z := by rw [hz]; exact (m3.1 _ _).1
  have s15 := oth M M2 _ (g + 5) _ g1 g5 (by omega) hwd t1
  have s35 := oth M2 M4 _ (g + 5) _ g3 g5 (by omega) w1 t3
  refine ⟨hz32, m3.1, (w3.nu (hi _ g5)).1, (s_MN_add hz32 m3.1 (w3.nu (hi _ g5)) (by rw [s35.1, s15.1, hn _ g5]; omega)).mono (fun M5 t5 => ?_)⟩
  have m5 := sub M4 M5 _ _ g5 w3 t5
  have w5 := m5.2.1
  have d5 : mR M5 a 10 = g := by rw [m5.rfl_a w3 hi]; exact d3
  have s17 := oth M M2 _ (g + 7) _ g1 g7 (by omega) hwd t1
  have s37 := oth M2 M4 _ (g + 7) _ g3 g7 (by omega) w1 t3
  have s57 := oth M4 M5 _ (g + 7) _ g5 g7 (by omega) w3 t5
  have l57 : ln M5 (g + 7) = T := by rw [s57.1, s37.1, s17.1]; exact hn _ g7
  rw [d5, (gr M5 w5).2.2.2.2.1]
  refine ⟨m5.1, w5.1.1, (gr M5 w5).1, (w5.nu (hi _ g7)).1, (s_MN_add (i32s (by omega) (by omega)) m5.1 (w5.nu (hi _ g7)) (by omega)).mono (fun M7 t7 => ?_)⟩
  have m7 := sub M5 M7 _ _ g7 w5 t7
  have w7 := m7.2.1
  have d7 : mR M7 a 10 = g := by rw [m7.rfl_a w5 hi]; exact d5
  have s19 := oth M M2 _ (g + 9) _ g1 g9 (by omega) hwd t1
  have s39 := oth M2 M4 _ (g + 9) _ g3 g9 (by omega) w1 t3
  have s59 := oth M4 M5 _ (g + 9) _ g5 g9 (by omega) w3 t5
  have s79 := oth M5 M7 _ (g + 9) _ g7 g9 (by omega) w5 t7
  have k79 := ((s19.trans s39).trans s59).trans s79
  have l79 : ln M7 (g + 9) = T := by rw [k79.1]; exact hn _ g9
  rw [d7, (gr M7 w7).2.2.2.2.2.1]
  refine ⟨m7.1, w7.1.1, (gr M7 w7).1, (w7.nu (hi _ g9)).1, (s_MN_add (i32s (by omega) (by omega)) m7.1 (w7.nu (hi _ g9)) (by omega)).mono (fun M8 t8 => ?_)⟩
  have m8 := sub M7 M8 _ _ g9 w7 t8
  have w8 := m8.2.1
  have d8 : mR M8 a 10 = g := by rw [m8.rfl_a w7 hi]; exact d7
  have s1b := oth M M2 _ (g + 11) _ g1 g11 (by omega) hwd t1
  have s3b := oth M2 M4 _ (g + 11) _ g3 g11 (by omega) w1 t3
  have s5b := oth M4 M5 _ (g + 11) _ g5 g11 (by omega) w3 t5
  have s7b := oth M5 M7 _ (g + 11) _ g7 g11 (by omega) w5 t7
  have s8b := oth M7 M8 _ (g + 11) _ g9 g11 (by omega) w7 t8
  have k8b := (((s1b.trans s3b).trans s5b).trans s7b).trans s8b
  have l8b : ln M8 (g + 11) = T := by rw [k8b.1]; exact hn _ g11
  rw [d8, (gr M8 w8).2.2.2.2.2.2]
  refine ⟨m8.1, w8.1.1, (gr M8 w8).1, (w8.nu (hi _ g11)).1, (s_MN_add (i32s (by omega) (by omega)) m8.1 (w8.nu (hi _ g11)) (by omega)).mono (fun M9 t9 => ?_)⟩
  have m9 := sub M8 M9 _ _ g11 w8 t9
  have w9 := m9.2.1
  have d9 : mR M9 a 10 = g := by rw [m9.rfl_a w8 hi]; exact d8
  rw [d9, (gr M9 w9).2.1]
  -- what each list holds at the end
  have e1 : sameN M2 M9 (g + 1) := ((((oth M2 M4 _ (g + 1) _ g3 g1 (by omega) w1 t3).trans (oth M4 M5 _ (g + 1) _ g5 g1 (by omega) w3 t5)).trans (oth M5 M7 _ (g + 1) _ g7 g1 (by omega) w5 t7)).trans (oth M7 M8 _ (g + 1) _ g9 g1 (by omega) w7 t8)).trans (oth M8 M9 _ (g + 1) _ g11 g1 (by omega) w8 t9)
  have e3 : sameN M4 M9 (g + 3) := (((oth M4 M5 _ (g + 3) _ g5 g3 (by omega) w3 t5).trans (oth M5 M7 _ (g + 3) _ g7 g3 (by omega) w5 t7)).trans (oth M7 M8 _ (g + 3) _ g9 g3 (by omega) w7 t8)).trans (oth M8 M9 _ (g + 3) _ g11 g3 (by omega) w8 t9)
  have e5 : sameN M5 M9 (g + 5) := ((oth M5 M7 _ (g + 5) _ g7 g5 (by omega) w5 t7).trans (oth M7 M8 _ (g + 5) _ g9 g5 (by omega) w7 t8)).trans (oth M8 M9 _ (g + 5) _ g11 g5 (by omega) w8 t9)
  have e7 : sameN M7 M9 (g + 7) := (oth M7 M8 _ (g + 7) _ g9 g7 (by omega) w7 t8).trans (oth M8 M9 _ (g + 7) _ g11 g7 (by omega) w8 t9)
  have e9 : sameN M8 M9 (g + 9) := oth M8 M9 _ (g + 9) _ g11 g9 (by omega) w8 t9
  obtain ⟨-, -, -, a1, b1, c1, -⟩ := t1
  obtain ⟨-, -, -, a3, b3, c3, -⟩ := t3
  obtain ⟨-, -, -, a5, b5, c5, -⟩ := t5
  obtain ⟨-, -, -, a7, b7, c7, -⟩ := t7
  obtain ⟨-, -, -, a9, b9, c9, -⟩ := t8
  obtain ⟨-, -, -, ab, bb, cb, -⟩ := t9
  have hl1 : ln M9 (g + 1) = T + 1 := by rw [e1.1, a1, hn _ g1]
  have k7 := (s17.trans s37).trans s57
  have tt : ∀ q, ln M q = T → (ln M q).toNat = T := fun q z => by omega
  have t57 : (ln M5 (g + 7)).toNat = T := by omega
  have t79' : (ln M7 (g + 9)).toNat = T := by omega
  have t8b' : (ln M8 (g + 11)).toNat = T := by omega
  rw [tt _ (hn _ g1)] at c1
  rw [t57] at c7
  rw [t79'] at c9
  rw [t8b'] at cb
  have c3' : nt M4 (g + 3) T = y := by
    have u := c3
    rw [s13.1, hn _ g3, Int.toNat_natCast] at u
    exact u
  have y7 : nt M2 (a + 7) wd = nt M (a + 7) wd := (m1.lst n7 (tL_no hg hwd).2.1).2.1 wd
  refine ⟨m9.1, w9.1.1, (gr M9 w9).1, (w9.nu (hi _ g1)).1, ((((m1.trans m3).trans m5).trans m7).trans m8).trans m9, ?_, fun q hq => ?_, fun n hnT => ⟨?_, ?_, ?_, ?_⟩, ?_, ?_, ?_, cb, ?_, fun n hnT => ?_⟩
  · have : mI M9 (g + 1) 1 = ln M9 (g + 1) := rfl
    omega
  · rcases hq with w | w | w | w | w | w <;> subst w
    · exact hl1
    · rw [e3.1, a3, s13.1, hn _ g3]; rfl
    · rw [e5.1, a5, s35.1, s15.1, hn _ g5]; rfl
    · rw [e7.1, a7, l57]; rfl
    · rw [e9.1, a9, l79]; rfl
    · rw [ab, l8b]; rfl
  · show nt M9 (g + 1) n = _
    rw [e1.2.1, b1 n (by rw [hn _ g1]; omega)]
  · show nt M9 (g + 7) n = _
    rw [e7.2.1, b7 n (by omega), k7.2.1]
  · show nt M9 (g + 9) n = _
    rw [e9.2.1, b9 n (by omega), k79.2.1]
  · show nt M9 (g + 11) n = _
    rw [bb n (by omega), k8b.2.1]
  · show nt M9 (g + 1) T = _
    rw [e1.2.1, c1]
  · show nt M9 (g + 7) T = _
    rw [e7.2.1, c7]
  · show nt M9 (g + 9) T = _
    rw [e9.2.1, c9]
  · show nt M9 (g + 3) T = _
    rw [e3.2.1, c3', hy, y7]
  · show nt M9 (g + 3) n = nt M (g + 3) n
    rw [e3.2.1, b3 n (by rw [s13.1, hn _ g3]; omega), s13.2.1]
theorem x_MM_job {st : List Int} {p i j : Int} (h : TI M a g N T st M2) (hl : st.length ≤ 65000) (hp : i32 p) (hi : i32 i) (hj : i32 j) : Cv G y_MM_job (d + 1) [vr a, vi p, vi i, vi j] M2 (fun M3 => TI M a g N T (j :: i :: p :: st) M3 ∧ sameX M2 M3 g) := by
  have hg := h.2.2.2.2.2
  have push : ∀ (st : List Int) (v : Int) (M4 : mM), TI M a g N T st M4 → st.length ≤ 65010 → i32 v → Cv G y_MN_add d [vr (a + 91), vi v] M4 (fun M5 => TI M a g N T (v :: st) M5 ∧ (∀ q, tL g q → sameN M4 M5 q)) := fun st v M4 h4 hl hv => by
    have w := h4.2.1.1.1
    refine (s_MN_addB (B := 65536) hv h4.1.1 (w.nu n91) (by rw [h4.2.2.2.2.1.1]; omega) (by decide)).mono (fun M5 t => ?_)
    have m5 := mv_addB w n91 (Or.inl rfl) t
    obtain ⟨k1, k2, k3⟩ := h4.wx m5 (fun q hq => Or.inr hq)
    have sm : ∀ q, tL g q → sameN M4 M5 q := fun q hq => m5.lst (tL_in hg hq) (fun z => by rw [z] at hq; exact (tL_no hg w).2.2.2.2 hq)
    exact ⟨⟨k1, k2, k3, fun q hq => by rw [(sm q hq).1]; exact h4.2.2.2.1 q hq, h4.2.2.2.2.1.add t, hg⟩, sm⟩
  have r18 : ∀ (st : List Int) (M4 : mM), TI M a g N T st M4 → mR M4 a 18 = a + 91 ∧ mK M4 a = 14 ∧ mK M4 (a + 91) = 15 ∧ mOk M4 := fun st M4 h4 => by
    have w := h4.2.1.1.1
    exact ⟨w.1.2.2.2.2.1.2.2.2.1, w.1.1, (w.nu n91).1, h4.1.1⟩
  have q0 := r18 _ _ h
  refine k_MM_job q0.2.2.2 hp hi hj ?_
  rw [q0.1]
  refine ⟨q0.2.1, q0.2.2.1, (push st p M2 h (by omega) hp).mono (fun M3 h3 => ?_)⟩
  obtain ⟨h3, s3⟩ := h3
  have q3 := r18 _ _ h3
  rw [q3.1]
  refine ⟨q3.2.2.2, q3.2.1, q3.2.2.1, (push _ i M3 h3 (by rw [List.length_cons]; omega) hi).mono (fun M4 h4 => ?_)⟩
  obtain ⟨h4, s4⟩ := h4
  have q4 := r18 _ _ h4
  rw [q4.1]
  refine ⟨q4.2.2.2, q4.2.1, q4.2.2.1, (push _ j M4 h4 (by simp only [List.length_cons]; omega) hj).mono (fun M5 h5 => ?_)⟩
  obtain ⟨h5, s5⟩ := h5
  have k : ∀ n q, tL g q → nt M5 q n = nt M2 q n := fun n q hq => by rw [(s5 q hq).2.1, (s4 q hq).2.1, (s3 q hq).2.1]
  exact ⟨h5.1.1, h5, fun n => ⟨k n _ (by omega), k n _ (by omega), k n _ (by omega), k n _ (by omega)⟩, fun n => k n _ (by omega)⟩
theorem x_MM_join {st : List Int} {p : Int} {x : Nat} (h : TI M a g N T st M2) (hp : p < T) (hp2 : i32 p) (hx : x ≤ 100000) (hT : T ≤ 100000) (hc : 0 ≤ p → fp M2 g p.toNat = -1 ∨ ∃ f c l : Nat, fp M2 g p.toNat = c ∧ Lk M2 g T f c l) : Cv G y_MM_join (d + 1) [vr a, vi p, vi x] M2 (fun M3 => TI M a g N T st M3 ∧ jnX M2 g T p x M3) := by
  have h0 := h
  obtain ⟨m2, wx, hd, hn, hs, hg⟩ := h
  have w := wx.1.1
  have hO := m2.1
  have gp := w.gp hg
  have g9 : tL g (g + 9) := by omega
  have g11 : tL g (g + 11) := by omega
  have i9 := tL_in (a := a) hg g9
  have i11 := tL_in (a := a) hg g11
  have u9 := w.nu i9
  have u11 := w.nu i11
  have l9 := hn _ g9
  have l11 := hn _ g11
  have c9 : (T : Int) ≤ cp M2 (g + 9) := by rw [← l9]; exact u9.2.2.2.1.2
  have c11 : (T : Int) ≤ cp M2 (g + 11) := by rw [← l11]; exact u11.2.2.2.1.2
  have r4 : mR M2 g 4 = g + 9 := gp.2.1.2.2.2.2.1
  have r5 : mR M2 g 5 = g + 11 := gp.2.1.2.2.2.2.2.1
  -- an entry of a list of the game
  have ent : ∀ (q j : Nat) (M3 : mM), tL g q → M3 = mUI M2 (mR M2 q 0) j x → TI M a g N T st M3 ∧ (∀ k, nt M3 q k = if k = j then (x : Int) else nt M2 q k) ∧ ∀ r, tL g r → r ≠ q → ∀ k, nt M3 r k = nt M2 r k := fun q j M3 hq e3 => by
    obtain ⟨m3, k1, k2, k3⟩ := mv_el (v := (x : Int)) (i32s (by omega) (by omega)) hO w (tL_in hg hq) e3
    obtain ⟨t1, t2, t3⟩ := h0.wx m3 (fun r hr => Or.inl (by rw [hr]; exact hq))
    have sm : ∀ r, r ∈ nums a → r ≠ q → sameN M2 M3 r := fun r hr hne => m3.lst hr hne
    refine ⟨⟨t1, t2, t3, fun r hr => ?_, hs.same (sm _ n91 (fun z => by rw [← z] at hq; exact (tL_no hg w).2.2.2.2 hq)), hg⟩, k2, fun r hr hne k => (sm r (tL_in hg hr) hne).2.1 k⟩
    by_cases z : r = q
    · rw [z, k1]; exact hn q hq
    · rw [(sm r (tL_in hg hr) z).1]; exact hn r hr
  refine k_MM_join hO hp2 (i32s (by omega) (by omega)) ⟨fun p0 => ?_, fun p0 => ⟨h0, ⟨fun n => ⟨rfl, rfl⟩, Or.inl ⟨by omega, fun n => ⟨rfl, rfl⟩⟩⟩, fun n => rfl⟩⟩
  rw [hd, r4]
  have ep : p = ((p.toNat : Nat) : Int) := by omega
  have hat : ∀ {Q : Int → mM → Prop}, (∀ y, y = fp M2 g p.toNat → i32 y → Q y M2) → Ci G y_MN_at d [vr (g + 9), vi p] M2 Q := fun hQ => by
    rw [ep]
    refine (s_MN_at hO u9 (by omega)).mono (fun y M3 h3 => ?_)
    obtain ⟨e3, hy⟩ := h3
    subst e3
    exact hQ y hy (by rw [hy]; exact (hO _ _).1)
  refine ⟨w.1.1, gp.1, u9.1, hat (fun y hy hy32 => ⟨hy32, hO, fun y0 => ?_, fun y0 => ?_⟩)⟩
  · rw [hd, r4]
    refine ⟨w.1.1, gp.1, u9.1, hat (fun z hz hz32 => ⟨hz32, hO, ?_⟩)⟩
    rcases hc p0 with q | ⟨f, c, l, q1, q2⟩
    · omega
    · have hzc : z = ((c : Nat) : Int) := hz.trans q1
      rw [hzc]
      suffices H : ∀ (f c' : Nat), Lk M2 g T f c' l → h_MM_join_45 G d a x c' M2 (fun M3 => TI M a g N T st M3 ∧ jnX M2 g T p x M3) from H f c q2
      intro f'
      induction f' with
      | zero => intro c' hk; exact hk.elim
      | succ f' ih =>
        intro c' hk
        obtain ⟨hk1, hk2⟩ := hk
        have hat2 : ∀ {Q : Int → mM → Prop}, (∀ y, y = np M2 g c' → i32 y → Q y M2) → Ci G y_MN_at d [vr (g + 11), vi c'] M2 Q := fun hQ => by
          refine (s_MN_at hO u11 (by omega)).mono (fun y M3 h3 => ?_)
          obtain ⟨e3, hy⟩ := h3
          subst e3
          exact hQ y hy (by rw [hy]; exact (hO _ _).1)
        refine k_MM_join_45 hO (i32s (by omega) (by omega)) (i32s (by omega) (by omega)) ?_
        rw [hd, r5]
        refine ⟨w.1.1, gp.1, u11.1, hat2 (fun u hu hu32 => ⟨hu32, hO, fun u0 => ?_, fun u0 => ?_⟩)⟩
        · rw [hd, r5]
          refine ⟨w.1.1, gp.1, u11.1, u11.2.1, ⟨by omega, by have : mN M2 (mR M2 (g + 11) 0) = cp M2 (g + 11) := rfl; omega⟩, fun M3 e3 => ?_⟩
          rw [Int.toNat_natCast] at e3
          obtain ⟨k1, k2, k3⟩ := ent (g + 11) c' M3 g11 e3
          have hl : c' = l := by
            rcases hk2 with ⟨z, -⟩ | ⟨y', z, -⟩
            · exact z
            · omega
          refine ⟨k1, ⟨fun n => ⟨k3 _ (by omega) (by omega) n, k3 _ (by omega) (by omega) n⟩, Or.inr (Or.inr ⟨p0, f, c, l, q1, q2, fun n => k3 _ g9 (by omega) n, fun n => ?_⟩)⟩, fun n => k3 _ (by omega) (by omega) n⟩
          rw [← hl]
          exact k2 n
        · rw [hd, r5]
          refine ⟨w.1.1, gp.1, u11.1, hat2 (fun v hv hv32 => ⟨hv32, hO, ?_⟩)⟩
          rcases hk2 with ⟨-, z⟩ | ⟨y', z1, z2⟩
          · omega
          · rw [hv, z1]
            exact ih y' z2
  · rw [hd, r4]
    have hf1 : fp M2 g p.toNat = -1 := by
      rcases hc p0 with q | ⟨f, c, l, q1, q2⟩
      · exact q
      · omega
    refine ⟨w.1.1, gp.1, u9.1, u9.2.1, ⟨by omega, by have : mN M2 (mR M2 (g + 9) 0) = cp M2 (g + 9) := rfl; omega⟩, fun M3 e3 => ?_⟩
    obtain ⟨k1, k2, k3⟩ := ent (g + 9) p.toNat M3 g9 e3
    exact ⟨k1, ⟨fun n => ⟨k3 _ (by omega) (by omega) n, k3 _ (by omega) (by omega) n⟩, Or.inr (Or.inl ⟨p0, hf1, k2, fun n => k3 _ g11 (by omega) n⟩)⟩, fun n => k3 _ (by omega) (by omega) n⟩
theorem x_MM_list {st : List Int} {M2 : mM} {p : Int} {i j : Nat} (hw : Wd M a) (h : TI M a g N T st M2) (hp : i32 p) (hi : 1 ≤ i) (hj : j < N) (hl : st.length + 3 * (j - i) ≤ 60000) (he : Eo (wk M a) 7 i j) : Cv G y_MM_list (d + 2) [vr a, vi p, vi i, vi j] M2 (fun M3 => ∃ rs f, TI M a g N T (flat p rs ++ st) M3 ∧ sameX M2 M3 g ∧ JM (wk M a) f i j rs ∧ rsum rs ≤ j - i) := by
  have hN := h.2.1.1.2.2
  have hO := h.1.1
  have hpr := he.pr
  have hij := hpr.1
  refine k_MM_list hO hp (i32s (by omega) (by omega)) (i32s (by omega) (by omega)) ?_
  -- one part after the other, from the last
  suffices H : ∀ (L e : Nat) (M3 : mM) (s2 : List (Nat × Nat)), e ≤ L → e ≤ j → Eo (wk M a) 7 i e → TI M a g N T (flat p s2 ++ st) M3 → sameX M2 M3 g → (∀ s f, JM (wk M a) f i e s → ∃ f', JM (wk M a) f' i j (s ++ s2)) → (rsum s2 ≤ j - e ∧ s2.length ≤ j - e) → h_MM_list_11 G (d + 1) a p i e 0 ((e : Int) - 1) M3 (fun M3 => ∃ rs f, TI M a g N T (flat p rs ++ st) M3 ∧ sameX M2 M3 g ∧ JM (wk M a) f i j rs ∧ rsum rs ≤ j - i) from
    H j j M2 [] (Nat.le_refl _) (Nat.le_refl _) he h ⟨fun n => ⟨rfl, rfl, rfl, rfl⟩, fun n => rfl⟩ (fun s f q => ⟨f, by rw [List.append_nil]; exact q⟩) (by simp [rsum])
  intro L
  induction L with
  | zero => intro e M3 s2 h1 _ h3; have := h3.pr.1; omega
  | succ L ih =>
    intro e M3 s2 heL hej h7 t3 sT hJ hlen
    have p7 := h7.pr
    -- the last part begins at b
    obtain ⟨b, hb1, hb2, hb3⟩ : ∃ b, i ≤ b ∧ Eo (wk M a) 6 b e ∧ (b = i ∨ (1 ≤ b ∧ i < b - 1 ∧ wk M a (b - 1) = 35 ∧ Eo (wk M a) 7 i (b - 1))) := by
      rcases h7.lst with q | ⟨m, q1, q2, q3⟩
      · exact ⟨i, by omega, q, Or.inl rfl⟩
      · have := q2.pr.1
        exact ⟨m + 1, by omega, q3, Or.inr ⟨by omega, by omega, by rw [show m + 1 - 1 = m by omega]; exact q1, by rw [show m + 1 - 1 = m by omega]; exact q2⟩⟩
    have pb := hb2.pr
    have hbe := pb.1
    have hbl := pb.2.2.2.2.1
    have hnc : Nx (wk M a) 35 b (e - b) := by
      obtain ⟨n, hn⟩ := hb2
      exact ex_nc (by omega) hn
    have hwk3 := t3.wk hw
    have w3 := t3.2.1.1
    have hO3 := t3.1.1
    have hK := w3.1.1.1
    have hlen3 : (flat p s2 ++ st).length ≤ 65000 := by rw [List.length_append, flat_len]; omega
    -- the job for that part
    have hjob : Cv G y_MM_job (d + 1) [vr a, vi p, vi ((b : Int) - 1 + 1), vi e] M3 (fun M4 => mOk M4 ∧ h_MM_list_11 G (d + 1) a p i ((b : Int) - 1) 0 ((b : Int) - 1 + (-1)) M4 (fun M3 => ∃ rs f, TI M a g N T (flat p rs ++ st) M3 ∧ sameX M2 M3 g ∧ JM (wk M a) f i j rs ∧ rsum rs ≤ j - i)) := by
      rw [show (b : Int) - 1 + 1 = (b : Int) by omega]
      refine (x_MM_job (d := d) t3 hlen3 hp (i32s (by omega) (by omega)) (i32s (by omega) (by omega))).mono (fun M4 h4 => ?_)
      obtain ⟨t4, s4⟩ := h4
      refine ⟨t4.1.1, ?_⟩
      have t4' : TI M a g N T (flat p ((b, e) :: s2) ++ st) M4 := t4
      rcases hb3 with z | ⟨z1, z2, z3, z4⟩
      · subst z
        obtain ⟨f', hf'⟩ := hJ [(b, e)] 1 (Or.inl ⟨rfl, hb2⟩)
        exact k_MM_list_11 t4.1.1 hp (i32s (by omega) (by omega)) (i32s (by omega) (by omega)) (i32s (by omega) (by omega)) (i32s (by omega) (by omega)) ⟨i32s (by omega) (by omega), fun _ => ⟨(b, e) :: s2, f', t4', sT.trans s4, hf', by show (e - b) + rsum s2 ≤ _; have := pb.1; omega⟩, fun q => by omega⟩
      · have := ih (b - 1) M4 ((b, e) :: s2) (by have := pb.1; omega) (by have := pb.1; omega) z4 t4' (sT.trans s4) (fun s f q => ?_) ⟨by show (e - b) + rsum s2 ≤ _; have := pb.1; omega, by simp only [List.length_cons]; have := pb.1; omega⟩
        · rw [show (((b - 1 : Nat)) : Int) = (b : Int) - 1 by omega, show (b : Int) - 1 - 1 = (b : Int) - 1 + (-1) by omega] at this
          exact this
        · have k : JM (wk M a) (f + 1) i e (s ++ [(b, e)]) := Or.inr ⟨b - 1, s, z3, z4, by rw [show b - 1 + 1 = b by omega]; exact hb2, by rw [show b - 1 + 1 = b by omega], q⟩
          obtain ⟨f', hf'⟩ := hJ _ _ k
          refine ⟨f', ?_⟩
          rw [List.append_assoc] at hf'
          exact hf'
    -- back to the beginning of that part
    suffices H2 : ∀ (c k : Nat), k = b + c → k ≤ e → h_MM_list_11 G (d + 1) a p i e (dp (wk M a) b (k - b)) ((k : Int) - 1) M3 (fun M3 => ∃ rs f, TI M a g N T (flat p rs ++ st) M3 ∧ sameX M2 M3 g ∧ JM (wk M a) f i j rs ∧ rsum rs ≤ j - i) by
      have := H2 (e - b) e (by have := pb.1; omega) (Nat.le_refl _)
      rw [hbl.1] at this
      exact this
    intro c
    induction c with
    | zero =>
      intro k hk hke
      have ek : k = b := by omega
      subst ek
      rw [show k - k = 0 by omega]
      show h_MM_list_11 G (d + 1) a p i e 0 ((k : Int) - 1) M3 _
      have h36' : h_MM_list_36 G (d + 1) a p i e 0 ((k : Int) - 1) 35 M3 (fun M3 => ∃ rs f, TI M a g N T (flat p rs ++ st) M3 ∧ sameX M2 M3 g ∧ JM (wk M a) f i j rs ∧ rsum rs ≤ j - i) := by
        refine k_MM_list_36 hO3 hp (i32s (by omega) (by omega)) (i32s (by omega) (by omega)) (i32s (by omega) (by omega)) (i32s (by omega) (by omega)) (i32s (by omega) (by omega)) (fun v hv => ?_)
        rw [if_neg (by omega), if_neg (by omega)] at hv
        subst hv
        exact ⟨i32s (by omega) (by omega), fun _ => ⟨hK, hjob⟩, fun q => absurd ⟨rfl, rfl⟩ q⟩
      refine k_MM_list_11 hO3 hp (i32s (by omega) (by omega)) (i32s (by omega) (by omega)) (i32s (by omega) (by omega)) (i32s (by omega) (by omega)) ⟨i32s (by omega) (by omega), fun q => by omega, fun _ => ⟨fun q => ⟨hK, ?_⟩, fun _ => h36'⟩⟩
      rcases hb3 with z | ⟨z1, z2, z3, z4⟩
      · omega
      · rw [show (k : Int) - 1 = ((k - 1 : Nat) : Int) by omega]
        refine (s_MM_word1 (d := d) hO3 w3 (by have := pb.1; omega)).mono (fun x M5 h5 => ?_)
        obtain ⟨e5, hx⟩ := h5
        subst e5
        rw [hwk3, z3] at hx
        subst hx
        rw [show (((k - 1 : Nat)) : Int) = (k : Int) - 1 by omega]
        exact ⟨i32s (by omega) (by omega), hO3, h36'⟩
    | succ c ihc =>
      intro k hk hke
      have nx := ihc (k - 1) (by omega) (by omega)
      have db := dp_b (w := wk M a) (i := b) (k - b)
      have db1 := dp_b (w := wk M a) (i := b) (k - 1 - b)
      have hds : dp (wk M a) b (k - b) = dp (wk M a) b (k - 1 - b) + (if wk M a (k - 1) = 36 then 1 else if wk M a (k - 1) = 37 then -1 else 0) := by
        rw [show k - b = (k - 1 - b) + 1 by omega, dp_s, show b + (k - 1 - b) = k - 1 by omega]
      refine k_MM_list_11 hO3 hp (i32s (by omega) (by omega)) (i32s (by omega) (by omega)) (i32s (by omega) (by omega)) (i32s (by omega) (by omega)) ⟨i32s (by omega) (by omega), fun q => by omega, fun _ => ⟨fun q => ⟨hK, ?_⟩, fun q => by omega⟩⟩
      rw [show (k : Int) - 1 = ((k - 1 : Nat) : Int) by omega]
      refine (s_MM_word1 (d := d) hO3 w3 (by omega)).mono (fun x M5 h5 => ?_)
      obtain ⟨e5, hx⟩ := h5
      subst e5
      rw [hwk3] at hx
      refine ⟨by rw [hx, ← hwk3]; exact wk32 hO3, hO3, k_MM_list_36 hO3 hp (i32s (by omega) (by omega)) (i32s (by omega) (by omega)) (i32s (by omega) (by omega)) (i32s (by omega) (by omega)) (by rw [hx, ← hwk3]; exact wk32 hO3) (fun v hv => ?_)⟩
      have hv' : v = dp (wk M a) b (k - 1 - b) := by
        rw [hx] at hv
        split at hv <;> (try split at hv) <;> split at hds <;> (try split at hds) <;> omega
      have hnk := hnc (k - 1 - b) (by omega)
      rw [show b + (k - 1 - b) = k - 1 by omega] at hnk
      refine ⟨i32s (by omega) (by omega), fun q => absurd (by rw [← hx]; exact q.2) (hnk (by omega)), fun _ => ?_⟩
      rw [hv', show ((k - 1 : Nat) : Int) + (-1) = ((k - 1 : Nat) : Int) - 1 by omega]
      exact nx
theorem x_MM_numberOf {k : Nat} (hO : mOk M) (h : Wx M a N) (hk : k < N) (h2 : wk M a k = 2) : Ci G y_MM_numberOf (d + 2) [vr a, vi k] M (fun x M' => M' = M ∧ (0 ≤ x ∧ x < 1000000000) ∧ x = numq (nt M (mR M a 2)) (nt M (a + 7) k).toNat (nt M (a + 9) k - nt M (a + 7) k).toNat) := by
  have h0 := h
  obtain ⟨⟨w, l, b⟩, l7, l9, wo, hT⟩ := h
  obtain ⟨-, ⟨p1, p2, p3⟩, p4, p5, -⟩ := wo k hk
  obtain ⟨p6, p7⟩ := p5 h2
  have hp := w.tape.2.1
  refine k_MM_numberOf hO (i32s (by omega) (by omega)) ⟨w.1.1, (s_MM_place0 (d := d) hO h0 hk).mono (fun x M1 e1 => ?_)⟩
  obtain ⟨e1, hx⟩ := e1
  subst e1
  have hp9 : i32 x := by rw [hx]; exact (hO _ _).1
  refine ⟨hp9, hO, ?_⟩
  suffices H : ∀ (c t : Nat) (v : Int), (t : Int) + c = nt M1 (a + 9) k - nt M1 (a + 7) k → 0 ≤ v → v < 10 ^ t → v = numq (nt M1 (mR M1 a 2)) (nt M1 (a + 7) k).toNat t → h_MM_numberOf_8 G (d + 1) a k v (nt M1 (a + 7) k + t) M1 (fun x M' => M' = M1 ∧ (0 ≤ x ∧ x < 1000000000) ∧ x = numq (nt M1 (mR M1 a 2)) (nt M1 (a + 7) k).toNat (nt M1 (a + 9) k - nt M1 (a + 7) k).toNat) by
    have := H (nt M1 (a + 9) k - nt M1 (a + 7) k).toNat 0 0 (by omega) (by omega) (by decide) rfl
    rw [hx]
    rw [show nt M1 (a + 7) k + ((0 : Nat) : Int) = nt M1 (a + 7) k by omega] at this
    exact this
  intro c
  induction c with
  | zero =>
    intro t v ht v0 v1 v2
    have hb := ten_pow_le (n := t) (m := 9) (by omega)
    have e9 : (10 : Int) ^ 9 = 1000000000 := by decide
    refine k_MM_numberOf_8 hO (i32s (by omega) (by omega)) ⟨by omega, by omega⟩ (i32s (by omega) (by omega)) ?_
    rw [w.1.2.2.1.2.2.1]
    refine ⟨w.1.1, (w.nu n9).1, (s_MN_at hO (w.nu n9) (by omega)).mono (fun y M2 e2 => ?_)⟩
    obtain ⟨e2, hy⟩ := e2
    subst e2
    exact ⟨by rw [hy]; exact (hO _ _).1, hO, fun _ => ⟨rfl, ⟨v0, by omega⟩, by rw [v2]; congr 1; omega⟩, fun q => by omega⟩
  | succ c ih =>
    intro t v ht v0 v1 v2
    have hb := ten_pow_le (n := t) (m := 8) (by omega)
    have e8 : (10 : Int) ^ 8 = 100000000 := by decide
    have hpw : (10 : Int) ^ (t + 1) = 10 ^ t * 10 := Int.pow_succ _ _
    refine k_MM_numberOf_8 hO (i32s (by omega) (by omega)) ⟨by omega, by omega⟩ (i32s (by omega) (by omega)) ?_
    rw [w.1.2.2.1.2.2.1]
    refine ⟨w.1.1, (w.nu n9).1, (s_MN_at hO (w.nu n9) (by omega)).mono (fun y M2 e2 => ?_)⟩
    obtain ⟨e2, hy⟩ := e2
    subst e2
    refine ⟨by rw [hy]; exact (hO _ _).1, hO, fun q => by omega, fun _ => ⟨w.1.1, (w.nu hp).1, ?_⟩⟩
    have ee : nt M2 (a + 7) k + (t : Int) = (((nt M2 (a + 7) k + (t : Int)).toNat : Nat) : Int) := by omega
    have hd := p7 (nt M2 (a + 7) k + (t : Int)).toNat (by omega) (by omega)
    rw [ee]
    refine (s_MN_at hO (w.nu hp) (by omega)).mono (fun z M3 e3 => ?_)
    obtain ⟨e3, hz⟩ := e3
    subst e3
    refine ⟨by rw [hz]; exact (hO _ _).1, hO, ?_⟩
    have nx := ih (t + 1) (10 * v + z - 48) (by omega) (by omega) (by omega) (by
      show _ = 10 * numq (nt M3 (mR M3 a 2)) (nt M3 (a + 7) k).toNat t + (nt M3 (mR M3 a 2) ((nt M3 (a + 7) k).toNat + t) - 48)
      rw [← v2, hz, show (nt M3 (a + 7) k + (t : Int)).toNat = (nt M3 (a + 7) k).toNat + t by omega]
      omega)
    rw [show nt M3 (a + 7) k + ((t + 1 : Nat) : Int) = (((nt M3 (a + 7) k + (t : Int)).toNat : Nat) : Int) + 1 by omega] at nx
    exact nx
end NDX
end
section
/-! The reference's tree, exactly. -/
section RNX
variable {G : mG} {d a N g T : Nat} {M M2 M3 : mM} {root : Int} {Q : Int → mM → Prop}
/-- what a leaf's node holds -/
def nvq (M : mM) (a k : Nat) : Int := if wk M a k = 1 then (k : Int) else if wk M a k = 2 then numq (nt M (mR M a 2)) (nt M (a + 7) k).toNat (nt M (a + 9) k - nt M (a + 7) k).toNat else 0
abbrev Tm (M M3 : mM) (a g c : Nat) (x : Int) (i j n e : Nat) : Prop := Td (wk M a) (nt M (a + 7)) (nvq M a) (so M3 g) (pm M3 g) (va M3 g) (fp M3 g) (np M3 g) c x i j n e
abbrev Tmb (M M3 : mM) (a g : Nat) (x : Int) (rs : List (Nat × Nat)) (n e : Nat) : Prop := Tbq (wk M a) (nt M (a + 7)) (nvq M a) (so M3 g) (pm M3 g) (va M3 g) (fp M3 g) (np M3 g) x rs n e
/-- lists that a tree leaves alone -/
theorem TI.oth {st : List Int} {q : Nat} (h : TI M a g N T st M2) (hq : q ∈ nums a) (hn : ¬ trP a g q) : sameN M M2 q := h.1.lst hq hn
theorem TI.n79 {st : List Int} (h : TI M a g N T st M2) (hw : Wd M a) : (∀ k, nt M2 (a + 7) k = nt M (a + 7) k) ∧ (∀ k, nt M2 (a + 9) k = nt M (a + 9) k) ∧ (∀ k, nt M2 (mR M2 a 2) k = nt M (mR M a 2) k) := by
  have hg := h.2.2.2.2.2
  have no := tL_no hg hw
  have r := h.1.rfl_a hw (fun q hq => trP_in hg hq)
  refine ⟨fun k => (h.oth n7 (fun q => ?_)).2.1 k, fun k => (h.oth n9 (fun q => ?_)).2.1 k, fun k => ?_⟩
  · rcases q with q | q
    · exact no.2.1 q
    · omega
  · rcases q with q | q
    · exact no.2.2.1 q
    · omega
  · rw [r]
    refine (h.oth hw.tape.2.1 (fun q => ?_)).2.1 k
    rcases q with q | q
    · exact no.2.2.2.1 q
    · rcases hw.1.2.1 with y | y <;> rw [y.2] at q <;> omega
theorem TI.nv {st : List Int} {k : Nat} (h : TI M a g N T st M2) (hw : Wd M a) : nvq M2 a k = nvq M a k := by
  obtain ⟨k1, k2, k3⟩ := h.n79 hw
  unfold nvq
  rw [h.wk hw, k1, k2, show nt M2 (mR M2 a 2) = nt M (mR M a 2) from funext k3]
/-- a job is done: its tree stands, joined to its parent -/
def RunX (G : mG) (d : Nat) (M : mM) (a g N : Nat) (root : Int) (Q : Int → mM → Prop) (L : Nat) : Prop := ∀ i j, j - i ≤ L → Eo (wk M a) 6 i j → j < N → ∀ (M2 : mM) (T : Nat) (p : Int) (st : List Int), TI M a g N T ((j : Int) :: (i : Int) :: p :: st) M2 → -1 ≤ p → p < T → chn M2 g T p → T + (j - i) ≤ 32760 → st.length + 3 * (j - i) ≤ 49900 → (∀ (M3 : mM) (T' : Nat), TI M a g N T' st M3 → T < T' → T' ≤ T + (j - i) → JE M2 M3 g T p → To (nmw (wk M a) N) M3 g 0 T T' → np M3 g T = -1 → (Tm M M3 a g 0 0 i j T T' ∧ ∀ n, n < T → pm M3 g n = pm M2 g n) → h_MM_tree_26 G (d + 5) a root M3 Q) → h_MM_tree_26 G (d + 5) a root M2 Q
theorem ch_runx {L : Nat} {n : Nat} {st : List Int} (hr : RunX G d M a g N root Q L) : ∀ (rs : List (Nat × Nat)) (M2 : mM) (T : Nat), rs ≠ [] → (∀ i j, (i, j) ∈ rs → j - i ≤ L ∧ Eo (wk M a) 6 i j ∧ j < N) → TI M a g N T (flat n rs ++ st) M2 → n < T → chn M2 g T n → T + rsum rs ≤ 32760 → st.length + 3 * rsum rs ≤ 49900 → (∀ (M3 : mM) (T' : Nat), TI M a g N T' st M3 → T < T' → T' ≤ T + rsum rs → JE M2 M3 g T n → To (nmw (wk M a) N) M3 g rs.length T T' → (Tmb M M3 a g (-1) rs T T' ∧ ∀ n, n < T → pm M3 g n = pm M2 g n) → h_MM_tree_26 G (d + 5) a root M3 Q) → h_MM_tree_26 G (d + 5) a root M2 Q
  | [], _, _, h, _, _, _, _, _, _, _ => absurd rfl h
  | [(i, j)], M2, T, _, hm, ht, hn, hc, hb, hl, hQ => by
    obtain ⟨a1, a2, a3⟩ := hm i j (List.mem_singleton.2 rfl)
    have e : rsum [(i, j)] = j - i := by show (j - i) + 0 = _; omega
    rw [e] at hb hl hQ
    exact hr i j a1 a2 a3 M2 T n st ht (by omega) (by omega) hc (by omega) (by omega) (fun M3 T' t3 h1 h2 je to nt tm => hQ M3 T' t3 h1 h2 je (to.one nt) ⟨⟨tm.1, nt⟩, tm.2⟩)
  | (i, j) :: r2 :: rs, M2, T, _, hm, ht, hn, hc, hb, hl, hQ => by
    obtain ⟨a1, a2, a3⟩ := hm i j (List.mem_cons_self ..)
    have pij := a2.pr.1
    have e : rsum ((i, j) :: r2 :: rs) = (j - i) + rsum (r2 :: rs) := rfl
    rw [e] at hb hl hQ
    have hrs : (r2 :: rs).length ≤ rsum (r2 :: rs) := by
      have : ∀ l : List (Nat × Nat), (∀ i j, (i, j) ∈ l → Eo (wk M a) 6 i j) → l.length ≤ rsum l := by
        intro l
        induction l with
        | nil => intro _; exact Nat.le_refl _
        | cons x l ih =>
          intro h
          have k := ih (fun i j q => h i j (List.mem_cons_of_mem _ q))
          have := (h x.1 x.2 (List.mem_cons_self ..)).pr.1
          show l.length + 1 ≤ (x.2 - x.1) + rsum l
          omega
      exact this _ (fun i j q => (hm i j (List.mem_cons_of_mem _ q)).2.1)
    have hfl := flat_len (n := (n : Int)) (r2 :: rs)
    refine hr i j a1 a2 a3 M2 T n (flat n (r2 :: rs) ++ st) ht (by omega) (by omega) hc (by omega) (by rw [List.length_append, hfl]; omega) (fun M3 T3 t3 h1 h2 je to nt tm => ?_)
    have hchain := je.chain (T' := T3) (by omega) (by omega) h1 nt
    refine ch_runx hr (r2 :: rs) M3 T3 (by simp) (fun i j q => hm i j (List.mem_cons_of_mem _ q)) t3 (by omega) (fun _ => by
      obtain ⟨f, c, k1, k2⟩ := hchain
      exact Or.inr ⟨f, c, T, k1, k2⟩) (by omega) (by omega) (fun M4 T4 t4 g1 g2 je2 to2 tm2 => ?_)
    obtain ⟨j1, j2, j3, j4⟩ := je.next je2 (by omega) (by omega) h1 nt
    refine hQ M4 T4 t4 (by omega) (by omega) j1 ?_ ⟨Exists.intro T3 ⟨tm.1.cg (Or.inl ⟨rfl, a2⟩) (fun k u v => ⟨(j3 k v).1, tm2.2 k v, (j3 k v).2.1, (j3 k v).2.2⟩) (fun k u v => j4 k v (by omega)) (fun u => absurd u (by decide)), j2, tm2.1⟩, fun n hn => (tm2.2 n (by omega)).trans (tm.2 n hn)⟩
    have to' : To (nmw (wk M a) N) M4 g 0 T T3 := to.fr (fun k k1 k2 => j3 k k2) (fun k k1 k2 => j4 k k2 (by omega)) (fun z => absurd rfl z)
    exact To.cons (by show 1 ≤ rs.length + 1; omega) to' j2 to2
/-- a job is taken -/
theorem TI.tkx {st : List Int} {x y : Int} (h : TI M a g N T (x :: st) M2) (t : tkQ M2 (a + 91) y M3) : TI M a g N T st M3 ∧ y = x ∧ sameX M2 M3 g := by
  have w := h.2.1.1.1
  have hg := h.2.2.2.2.2
  have m := mv_take w n91 t
  obtain ⟨k1, k2, k3⟩ := h.wx m (fun q hq => Or.inr hq)
  obtain ⟨s1, s2⟩ := h.2.2.2.2.1.take t
  have sm : ∀ q, tL g q → sameN M2 M3 q := fun q hq => m.lst (tL_in hg hq) (fun z => by rw [z] at hq; exact (tL_no hg w).2.2.2.2 hq)
  refine ⟨⟨k1, k2, k3, fun q hq => by rw [(sm q hq).1]; exact h.2.2.2.1 q hq, s1, hg⟩, s2, fun n => ⟨(sm _ (by omega)).2.1 n, (sm _ (by omega)).2.1 n, (sm _ (by omega)).2.1 n, (sm _ (by omega)).2.1 n⟩, fun n => (sm _ (by omega)).2.1 n⟩
/-- a node that has its parts -/
theorem nd_fx {M7 M8 M9 : mM} (s78 : sameT M7 M8 g) (hf7 : fp M7 g T = -1) (je9 : JE M8 M9 g (T + 1) (T : Int)) : fp M9 g T = ((T + 1 : Nat) : Int) ∧ so M9 g T = so M7 g T := by
  refine ⟨?_, by rw [(je9.1 T (by omega)).1, (s78 T).1]⟩
  rcases je9.2 with ⟨q, -⟩ | ⟨q0, q1, q2, q3⟩ | ⟨q0, f, c, l, q1, q2, q3, q4⟩
  · omega
  · rw [q2 T (by omega), if_pos (by omega)]
  · exfalso
    rw [Int.toNat_natCast, (s78 T).2.2.1, hf7] at q1
    omega
end RNX
section MKX
variable {G : mG} {d a N g : Nat} {M : mM} {root : Int} {Q : Int → mM → Prop}
theorem tr_runx (hw : Wd M a) (hroot : i32 root) : ∀ L, RunX G d M a g N root Q L := by
  intro L
  induction L with
  | zero =>
    intro i j hl he
    have := he.pr.1
    omega
  | succ L ih =>
    intro i j hl he hjN M2 T p st t2 hp1 hpT hc hb hlen hQ
    have hij := he.pr.1
    have hg := t2.2.2.2.2.2
    have hN := t2.2.1.1.2.2
    have r18 : ∀ {T : Nat} (s : List Int) (M4 : mM), TI M a g N T s M4 → mR M4 a 18 = a + 91 ∧ mK M4 a = 14 ∧ mK M4 (a + 91) = 15 ∧ mOk M4 ∧ Nu M4 (a + 91) := fun s M4 h4 => by
      have w := h4.2.1.1.1
      exact ⟨w.1.2.2.2.2.1.2.2.2.1, w.1.1, (w.nu n91).1, h4.1.1, w.nu n91⟩
    have q2 := r18 _ _ t2
    have l2 : mI M2 (a + 91) 1 = (((j : Int) :: (i : Int) :: p :: st).length : Int) := t2.2.2.2.2.1.1
    simp only [List.length_cons] at l2
    have hp32 : i32 p := i32s (by omega) (by omega)
    refine k_MM_tree_26 q2.2.2.2.1 hroot ?_
    rw [q2.1]
    refine ⟨q2.2.1, q2.2.2.1, fun z => by omega, fun _ => (s_MN_take q2.2.2.2.1 q2.2.2.2.2 (by unfold ln; omega)).mono (fun y1 M3 k3 => ?_)⟩
    obtain ⟨t3, e3, s3⟩ := t2.tkx k3
    subst e3
    have q3 := r18 _ _ t3
    have l3 : mI M3 (a + 91) 1 = (((i : Int) :: p :: st).length : Int) := t3.2.2.2.2.1.1
    simp only [List.length_cons] at l3
    rw [q3.1]
    refine ⟨i32s (by omega) (by omega), q3.2.2.2.1, q3.2.1, q3.2.2.1, (s_MN_take q3.2.2.2.1 q3.2.2.2.2 (by unfold ln; omega)).mono (fun y2 M4 k4 => ?_)⟩
    obtain ⟨t4, e4, s4⟩ := t3.tkx k4
    subst e4
    have q4 := r18 _ _ t4
    have l4 : mI M4 (a + 91) 1 = ((p :: st).length : Int) := t4.2.2.2.2.1.1
    simp only [List.length_cons] at l4
    rw [q4.1]
    refine ⟨i32s (by omega) (by omega), q4.2.2.2.1, q4.2.1, q4.2.2.1, (s_MN_take q4.2.2.2.1 q4.2.2.2.2 (by unfold ln; omega)).mono (fun y3 M5 k5 => ?_)⟩
    obtain ⟨t5, e5, s5⟩ := t4.tkx k5
    subst e5
    have q5 := r18 _ _ t5
    have x25 : sameX M2 M5 g := (s3.trans s4).trans s5
    have s25 : sameT M2 M5 g := x25.1
    have hc5 : chn M5 g T y3 := hc.mono hpT (Nat.le_refl _) (fun n _ => ⟨(s25 n).2.2.1, (s25 n).2.2.2⟩)
    refine ⟨hp32, q5.2.2.2.1, q5.2.1, ?_⟩
    -- words, in whatever state
    have wkx : ∀ {T : Nat} (s : List Int) (M4 : mM), TI M a g N T s M4 → Wn M4 a N ∧ mOk M4 ∧ wk M4 a = wk M a ∧ mK M4 a = 14 := fun s M4 h4 => ⟨h4.2.1.1, h4.1.1, h4.wk hw, h4.2.1.1.1.1.1⟩
    have w5 := wkx _ _ t5
    -- a node is made and joined
    have mk : ∀ (s : Int) (wd fr : Nat) (R : Int → mM → Prop), i32 s → wd < N → fr < N → (∀ M7, TI M a g N (T + 1) st M7 → JE M2 M7 g T y3 → fp M7 g T = -1 → np M7 g T = -1 → so M7 g T = s → va M7 g T = 0 → (pm M7 g T = nt M (a + 7) wd ∧ ∀ n, n < T → pm M7 g n = pm M2 g n) → R (T : Int) M7) → Ci G y_MM_node (d + 4) [vr a, vi s, vi wd, vi fr] M5 (fun x M6 => i32 x ∧ mOk M6 ∧ (mK M6 a = 14 ∧ Cv G y_MM_join (d + 4) [vr a, vi y3, vi x] M6 (fun M7 => mOk M7 ∧ R x M7))) := fun s wd fr R hs hwd hfr hR => by
      refine (x_MM_node (d := d + 2) hs w5.2.1 t5.2.1 hwd hfr hg t5.2.2.1 t5.2.2.2.1 (by omega)).mono (fun x M6 h6 => ?_)
      obtain ⟨m6, ex6, n6, o6, a1, a2, a3, a4, a5, a6⟩ := h6
      subst ex6
      have t6 := t5.nd m6 n6
      have hc6 : chn M6 g (T + 1) y3 := hc5.mono hpT (by omega) (fun n hn => ⟨(o6 n hn).2.2.1, (o6 n hn).2.2.2⟩)
      refine ⟨i32s (by omega) (by omega), m6.1, (wkx _ _ t6).2.2.2, (x_MM_join (d := d + 3) (x := T) t6 (by omega) hp32 (by omega) (by omega) hc6).mono (fun M7 h7 => ?_)⟩
      obtain ⟨t7, j7⟩ := h7
      obtain ⟨b1, b2, b3, b4, b5⟩ := nj (st := st) hpT hc5 o6 a3 a4 j7.1
      exact ⟨t7.1.1, hR M7 t7 (b1.pre hpT (fun n _ => s25 n)) b2 b3 (by rw [b4]; exact a1) (by rw [b5]; exact a2) ⟨by rw [j7.2, a5, (t5.n79 hw).1], fun n hn => by rw [j7.2, a6 n hn, x25.2]⟩⟩
    -- the parts of the new node
    have kids : ∀ (rs : List (Nat × Nat)) (M7 M8 : mM), rs ≠ [] → (∀ i' j', (i', j') ∈ rs → j' - i' ≤ L ∧ Eo (wk M a) 6 i' j' ∧ j' < N) → rsum rs + 1 ≤ j - i → TI M a g N (T + 1) st M7 → JE M2 M7 g T y3 → fp M7 g T = -1 → np M7 g T = -1 → ari (so M7 g T) rs.length → TI M a g N (T + 1) (flat (T : Int) rs ++ st) M8 → sameX M7 M8 g → (∀ n, n < T → pm M7 g n = pm M2 g n) → (∀ (M9 : mM) (T9 : Nat), so M9 g T = so M7 g T → pm M9 g T = pm M7 g T → fp M9 g T = ((T + 1 : Nat) : Int) → Tmb M M9 a g (-1) rs (T + 1) T9 → Tm M M9 a g 0 0 i j T T9) → h_MM_tree_26 G (d + 5) a root M8 Q := fun rs M7 M8 hne hrs hsum t7 je f7 n7 ha t8 s8' p7 mkT => by
      have s8 := s8'.1
      refine ch_runx (n := T) (st := st) ih rs M8 (T + 1) hne hrs t8 (by omega) (fun _ => Or.inl (by rw [Int.toNat_natCast, (s8 T).2.2.1]; exact f7)) (by omega) (by omega) (fun M9 T9 t9 h1 h2 je9 to9 tm9 => ?_)
      obtain ⟨b1, b2, b3⟩ := nd_fin (a := a) (N := N) hpT je s8 f7 n7 je9 (by cases rs with | nil => exact absurd rfl hne | cons x rs => show 1 ≤ rs.length + 1; omega) ha (T9 := T9) (M := M) to9
      have fx := nd_fx s8 f7 je9
      have e9 : pm M9 g T = pm M7 g T := by rw [tm9.2 T (by omega), s8'.2]
      exact hQ M9 T9 t9 (by omega) (by omega) b1 b2 b3 ⟨mkT M9 T9 fx.2 e9 fx.1 tm9.1, fun n hn => by rw [tm9.2 n (by omega), s8'.2, p7 n hn]⟩
    have single : ∀ {i1 j1 : Nat}, ∀ i' j', (i', j') ∈ [(i1, j1)] → i' = i1 ∧ j' = j1 := fun i' j' q => Prod.mk.inj (List.mem_singleton.1 q)
    refine k_MM_part w5.2.1 hp32 (i32s (by omega) (by omega)) (i32s (by omega) (by omega)) ⟨w5.2.2.2, (s_MM_loosest (d := d) w5.2.1 w5.1 hij (by omega)).mono (fun x M6 h6 => ?_)⟩
    obtain ⟨e6, hx⟩ := h6
    subst e6
    rw [w5.2.2.1] at hx
    rcases he.sp with ⟨m, q, hlo, hm, hq, e1, e2, e3⟩ | ⟨m, hlo, hm, e1, e2⟩ | ⟨hlo, h36, h37, e1⟩ | ⟨hlo, h25, e1⟩ | ⟨hlo, hj1, hlf⟩ | ⟨hlo, h14, h36, h37, e7⟩
    · -- a question
      have p1 := e1.pr.1
      have p2 := e2.pr
      have p3 := e3.pr.1
      have ex : x = (m : Int) := by rw [hx]; exact hlo
      subst ex
      have hmN : m < N := by have := p2.1; omega
      refine ⟨i32s (by omega) (by omega), w5.2.1, fun z => by omega, fun _ => ⟨w5.2.2.2, (s_MM_word1 (d := d + 3) w5.2.1 w5.1 hmN).mono (fun y0 M0 h0 => ?_)⟩⟩
      obtain ⟨e0, hy0⟩ := h0
      subst e0
      rw [w5.2.2.1] at hy0
      have hy32 : i32 y0 := by rw [hy0, ← w5.2.2.1]; exact wk32 w5.2.1
      refine ⟨hy32, w5.2.1, w5.2.2.2, mk y0 m i _ hy32 hmN (by omega) (fun M7 t7 je f7 n7 so7 _ pm7 => ⟨(wkx _ _ t7).2.2.2, ?_⟩)⟩
      · have w7 := wkx _ _ t7
        rw [hy0] at so7
        refine (s_MM_word1 (d := d + 3) w7.2.1 w7.1 hmN).mono (fun y M8 h8 => ?_)
        obtain ⟨e8, hy⟩ := h8
        subst e8
        rw [w7.2.2.1, hm] at hy
        refine ⟨i32s (by omega) (by omega), w7.2.1, fun _ => ⟨w7.2.2.2, (s_MM_colonOf (d := d + 2) (q := q) w7.2.1 w7.1 (by have := p2.1; omega) (by omega) (by omega) (by rw [w7.2.2.1]; exact p2.2.2.2.2.1) (by rw [w7.2.2.1]; exact hq)).mono (fun z M9 h9 => ?_)⟩, fun z => absurd hy z⟩
        obtain ⟨e9, hz⟩ := h9
        subst e9 hz
        refine ⟨i32s (by omega) (by omega), w7.2.1, w7.2.2.2, (x_MM_job (d := d + 3) t7 (by omega) (i32s (by omega) (by omega)) (i32s (by omega) (by omega)) (i32s (by omega) (by omega))).mono (fun Ma ha => ?_)⟩
        obtain ⟨ta, sa⟩ := ha
        refine ⟨ta.1.1, (wkx _ _ ta).2.2.2, (x_MM_job (d := d + 3) ta (by simp only [List.length_cons]; omega) (i32s (by omega) (by omega)) (i32s (by omega) (by omega)) (i32s (by omega) (by omega))).mono (fun Mb hb' => ?_)⟩
        obtain ⟨tb, sb⟩ := hb'
        refine ⟨tb.1.1, (wkx _ _ tb).2.2.2, (x_MM_job (d := d + 3) tb (by simp only [List.length_cons]; omega) (i32s (by omega) (by omega)) (i32s (by omega) (by omega)) (i32s (by omega) (by omega))).mono (fun Mc hc' => ?_)⟩
        obtain ⟨tc, sc⟩ := hc'
        refine ⟨tc.1.1, tc.1.1, kids [(i, m), (m + 1, q), (q + 1, j)] M9 Mc (by simp) (fun i' j' z => ?_) (by show (m - i) + ((q - (m + 1)) + ((j - (q + 1)) + 0)) + 1 ≤ j - i; have := p2.1; omega) t7 je f7 n7 (by rw [so7, hm]; exact Or.inr (Or.inr (Or.inl ⟨rfl, rfl⟩))) tc ((sa.trans sb).trans sc) pm7.2 (fun Mx Tx u1 u2 u3 u4 => ?_)⟩
        rotate_left
        · obtain ⟨n1, v1, v2, n2, v3, v4, v5, v6⟩ := u4
          unfold Tm; rw [Td_ask hlo (by omega) (by have := p2.1; omega) hm (clq_eo e2 hq (by omega))]
          exact ⟨n1, n2, ⟨by rw [u1, so7], by rw [u2, pm7.1], u3⟩, v1, v2, v3, v4, v5, v6⟩
        have hp2 := p2.1
        rcases List.mem_cons.1 z with z | z
        · obtain ⟨z1, z2⟩ := Prod.mk.inj z
          subst z1 z2
          exact ⟨by omega, e1.six (by omega), by omega⟩
        · rcases List.mem_cons.1 z with z | z
          · obtain ⟨z1, z2⟩ := Prod.mk.inj z
            subst z1 z2
            exact ⟨by omega, e2, by omega⟩
          · obtain ⟨z1, z2⟩ := single i' j' z
            subst z1 z2
            exact ⟨by omega, e3, by omega⟩
    · -- an operator of two parts
      have p1 := e1.pr.1
      have p2 := e2.pr.1
      have ex : x = (m : Int) := by rw [hx]; exact hlo
      subst ex
      have hmN : m < N := by omega
      refine ⟨i32s (by omega) (by omega), w5.2.1, fun z => by omega, fun _ => ⟨w5.2.2.2, (s_MM_word1 (d := d + 3) w5.2.1 w5.1 hmN).mono (fun y0 M0 h0 => ?_)⟩⟩
      obtain ⟨e0, hy0⟩ := h0
      subst e0
      rw [w5.2.2.1] at hy0
      have hy32 : i32 y0 := by rw [hy0, ← w5.2.2.1]; exact wk32 w5.2.1
      refine ⟨hy32, w5.2.1, w5.2.2.2, mk y0 m i _ hy32 hmN (by omega) (fun M7 t7 je f7 n7 so7 _ pm7 => ⟨(wkx _ _ t7).2.2.2, ?_⟩)⟩
      · have w7 := wkx _ _ t7
        rw [hy0] at so7
        refine (s_MM_word1 (d := d + 3) w7.2.1 w7.1 hmN).mono (fun y M8 h8 => ?_)
        obtain ⟨e8, hy⟩ := h8
        subst e8
        rw [w7.2.2.1] at hy
        refine ⟨by rw [hy, ← w7.2.2.1]; exact wk32 w7.2.1, w7.2.1, fun z => by omega, fun _ => ⟨w7.2.2.2, (x_MM_job (d := d + 3) t7 (by omega) (i32s (by omega) (by omega)) (i32s (by omega) (by omega)) (i32s (by omega) (by omega))).mono (fun Ma ha => ?_)⟩⟩
        obtain ⟨ta, sa⟩ := ha
        refine ⟨ta.1.1, (wkx _ _ ta).2.2.2, (x_MM_job (d := d + 3) ta (by simp only [List.length_cons]; omega) (i32s (by omega) (by omega)) (i32s (by omega) (by omega)) (i32s (by omega) (by omega))).mono (fun Mb hb' => ?_)⟩
        obtain ⟨tb, sb⟩ := hb'
        refine ⟨tb.1.1, tb.1.1, kids [(i, m), (m + 1, j)] M8 Mb (by simp) (fun i' j' z => ?_) (by show (m - i) + ((j - (m + 1)) + 0) + 1 ≤ j - i; omega) t7 je f7 n7 (by rw [so7]; exact Or.inr (Or.inl ⟨by omega, rfl⟩)) tb (sa.trans sb) pm7.2 (fun Mx Tx u1 u2 u3 u4 => ?_)⟩
        rotate_left
        · obtain ⟨n1, v1, v2, v3, v4⟩ := u4
          unfold Tm; rw [Td_bin hlo (by omega) (by omega) (by omega)]
          exact ⟨n1, ⟨by rw [u1, so7], by rw [u2, pm7.1], u3⟩, v1, v2, v3, v4⟩
        rcases List.mem_cons.1 z with z | z
        · obtain ⟨z1, z2⟩ := Prod.mk.inj z
          subst z1 z2
          exact ⟨by omega, e1, by omega⟩
        · obtain ⟨z1, z2⟩ := single i' j' z
          subst z1 z2
          exact ⟨by omega, e2, by omega⟩
    · -- parentheses
      have p1 := e1.pr.1
      have ex : x = -1 := by rw [hx]; exact hlo
      subst ex
      refine ⟨i32s (by omega) (by omega), w5.2.1, fun _ => ⟨w5.2.2.2, (s_MM_word1 (d := d + 3) w5.2.1 w5.1 (by omega)).mono (fun y M7 h7 => ?_)⟩, fun z => by omega⟩
      obtain ⟨e7, hy⟩ := h7
      subst e7
      rw [w5.2.2.1, h36] at hy
      refine ⟨i32s (by omega) (by omega), w5.2.1, fun _ => ⟨w5.2.2.2, ?_⟩, fun z => absurd hy z⟩
      rw [show (i : Int) + 1 = ((i + 1 : Nat) : Int) by omega, show (j : Int) - 1 = ((j - 1 : Nat) : Int) by omega]
      refine (x_MM_job (d := d + 3) t5 (by omega) hp32 (i32s (by omega) (by omega)) (i32s (by omega) (by omega))).mono (fun Ma ha => ?_)
      obtain ⟨ta, sa⟩ := ha
      have s2a : sameT M2 Ma g := s25.trans sa.1
      exact ⟨ta.1.1, ta.1.1, ih (i + 1) (j - 1) (by omega) e1 (by omega) Ma T y3 st ta hp1 hpT (hc.mono hpT (Nat.le_refl _) (fun n _ => ⟨(s2a n).2.2.1, (s2a n).2.2.2⟩)) (by omega) (by omega) (fun M9 T9 t9 b1 b2 je to nn tm => hQ M9 T9 t9 b1 (by omega) (je.pre hpT (fun n _ => s2a n)) to nn ⟨by rw [Tm, Td_par hlo hij h36]; exact tm.1, fun n hn => by rw [tm.2 n hn, sa.2, x25.2]⟩)⟩
    · -- a sign before
      have p1 := e1.pr.1
      have ex : x = -1 := by rw [hx]; exact hlo
      subst ex
      refine ⟨i32s (by omega) (by omega), w5.2.1, fun _ => ⟨w5.2.2.2, (s_MM_word1 (d := d + 3) w5.2.1 w5.1 (by omega)).mono (fun y M7 h7 => ?_)⟩, fun z => by omega⟩
      obtain ⟨e7, hy⟩ := h7
      subst e7
      rw [w5.2.2.1] at hy
      refine ⟨i32s (by omega) (by omega), w5.2.1, fun z => by omega, fun _ v hv => ⟨w5.2.2.2, mk v i i _ (by split at hv <;> exact i32s (by omega) (by omega)) (by omega) (by omega) (fun M8 t8 je8 f8 n8 so8 _ pm8 => ⟨fun _ => ⟨(wkx _ _ t8).2.2.2, ?_⟩, fun z => by omega⟩)⟩⟩
      rw [show (i : Int) + 1 = ((i + 1 : Nat) : Int) by omega]
      refine (x_MM_job (d := d + 3) t8 (by omega) (i32s (by omega) (by omega)) (i32s (by omega) (by omega)) (i32s (by omega) (by omega))).mono (fun Ma ha => ?_)
      obtain ⟨ta, sa⟩ := ha
      refine ⟨ta.1.1, k_MM_part_267 ta.1.1 ⟨ta.1.1, kids [(i + 1, j)] M8 Ma (by simp) (fun i' j' z => ?_) (by show (j - (i + 1)) + 0 + 1 ≤ j - i; omega) t8 je8 f8 n8 (by rw [so8]; exact Or.inl ⟨by split at hv <;> omega, rfl⟩) ta sa pm8.2 (fun Mx Tx u1 u2 u3 u4 => ?_)⟩⟩
      rotate_left
      · unfold Tm; rw [Td_pre hlo hij h25]
        refine ⟨⟨?_, by rw [u2, pm8.1], u3⟩, u4.1, u4.2⟩
        rw [u1, so8, hv, hy]; rcases h25 with z9 | z9 <;> simp [z9]
      obtain ⟨z1, z2⟩ := single i' j' z
      subst z1 z2
      exact ⟨by omega, e1, by omega⟩
    · -- a leaf
      have ex : x = -1 := by rw [hx]; exact hlo
      subst ex
      refine ⟨i32s (by omega) (by omega), w5.2.1, fun _ => ⟨w5.2.2.2, (s_MM_word1 (d := d + 3) w5.2.1 w5.1 (by omega)).mono (fun y M7 h7 => ?_)⟩, fun z => by omega⟩
      obtain ⟨e7, hy⟩ := h7
      subst e7
      rw [w5.2.2.1] at hy
      -- a leaf's value is written
      have leaf : ∀ (M8 M9 : mM) (v : Int), TI M a g N (T + 1) st M8 → JE M2 M8 g T y3 → fp M8 g T = -1 → np M8 g T = -1 → so M8 g T = y → i32 v → M9 = mUI M8 (mR M8 (g + 7) 0) T v → (y = 2 → 0 ≤ v ∧ v < 1000000000) → (y = 1 → 0 ≤ v ∧ v < N ∧ wk M a v.toNat = 1) → (pm M8 g T = nt M (a + 7) i ∧ ∀ n, n < T → pm M8 g n = pm M2 g n) → v = nvq M a i → h_MM_part_267 G (d + 4) M9 (fun M28 => mOk M28 ∧ h_MM_tree_26 G (d + 5) a root M28 Q) := fun M8 M9 v t8 je8 f8 n8 so8 hv e9 h2 h1 pm8 ev => by
        have w8 := t8.2.1.1.1
        have g7 : tL g (g + 7) := by omega
        obtain ⟨m9, k1, k2, k3⟩ := mv_el hv t8.1.1 w8 (tL_in hg g7) e9
        obtain ⟨u1, u2, u3⟩ := t8.wx m9 (fun r hr => Or.inl (by rw [hr]; exact g7))
        have sm : ∀ r, r ∈ nums a → r ≠ g + 7 → sameN M8 M9 r := fun r hr hne => m9.lst hr hne
        have t9 : TI M a g N (T + 1) st M9 := ⟨u1, u2, u3, fun r hr => by
          by_cases z : r = g + 7
          · rw [z, k1]; exact t8.2.2.2.1 _ g7
          · rw [(sm r (tL_in hg hr) z).1]; exact t8.2.2.2.1 r hr, t8.2.2.2.2.1.same (sm _ n91 (fun z => by rw [← z] at g7; exact (tL_no hg w8).2.2.2.2 g7)), hg⟩
        have s1 : ∀ n, so M9 g n = so M8 g n := fun n => (sm _ (tL_in hg (by omega)) (by omega)).2.1 n
        have s9 : ∀ n, fp M9 g n = fp M8 g n := fun n => (sm _ (tL_in hg (by omega)) (by omega)).2.1 n
        have s11 : ∀ n, np M9 g n = np M8 g n := fun n => (sm _ (tL_in hg (by omega)) (by omega)).2.1 n
        have s7 : ∀ n, va M9 g n = if n = T then v else va M8 g n := k2
        have s3' : ∀ n, pm M9 g n = pm M8 g n := fun n => (sm _ (tL_in hg (by omega)) (by omega)).2.1 n
        refine k_MM_part_267 u1.1 ⟨u1.1, hQ M9 (T + 1) t9 (by omega) (by omega) (je8.post (fun n hn => ⟨s1 n, by rw [s7 n, if_neg (by omega)], s9 n, s11 n⟩)) (To.leaf (by rw [s9]; exact f8) (by rw [s1, so8]; omega) (fun z => ?_) (fun z => ?_)) (by rw [s11]; exact n8) ⟨?_, fun n hn => by rw [s3' n, pm8.2 n hn]⟩⟩
        rotate_left 2
        · subst hj1
          rw [Tm, Td_leaf hlo (by omega) hlf]
          exact ⟨rfl, by rw [s1, so8, hy], by rw [s3', pm8.1], by rw [s9]; exact f8, by rw [s7 T, if_pos rfl]; exact ev⟩
        · rw [s1, so8] at z
          rw [s7 T, if_pos rfl]
          exact h2 z
        · rw [s1, so8] at z
          rw [s7 T, if_pos rfl]
          exact h1 z
      refine ⟨i32s (by omega) (by omega), w5.2.1, fun z => by omega, fun _ v hv => ⟨w5.2.2.2, ?_⟩⟩
      rw [if_neg (by omega)] at hv
      subst hv
      refine mk v i i _ (i32s (by omega) (by omega)) (by omega) (by omega) (fun M8 t8 je8 f8 n8 so8 va8 pm8 => ⟨fun z => by omega, fun _ => ?_⟩)
      have w8 := wkx _ _ t8
      have wd8 := t8.2.1.1.1
      have gp := wd8.gp hg
      have u7 := wd8.nu (tL_in (q := g + 7) hg (by omega))
      have l7 := t8.2.2.2.1 (g + 7) (by omega)
      have c7 : ((T + 1 : Nat) : Int) ≤ cp M8 (g + 7) := by rw [← l7]; exact u7.2.2.2.1.2
      have r3 : mR M8 g 3 = g + 7 := gp.2.1.2.2.2.1
      rw [t8.2.2.1, r3]
      refine ⟨fun z2 => ⟨w8.2.2.2, gp.1, u7.1, (x_MM_numberOf (d := d + 2) w8.2.1 t8.2.1 (by omega) (by rw [w8.2.2.1, ← hy]; exact z2)).mono (fun z M9 h9 => ?_)⟩, fun z2 => ⟨fun z1 => ⟨w8.2.2.2, gp.1, u7.1, u7.2.1, ⟨by omega, by have : mN M8 (mR M8 (g + 7) 0) = cp M8 (g + 7) := rfl; omega⟩, fun M9 e9 => ?_⟩, fun z1 => ⟨fun z => by omega, fun _ => ?_⟩⟩⟩
      · obtain ⟨e9, ⟨z0, z1⟩, z9⟩ := h9
        subst e9
        refine ⟨⟨by omega, by omega⟩, w8.2.1, u7.2.1, ⟨by omega, by have : mN M9 (mR M9 (g + 7) 0) = cp M9 (g + 7) := rfl; omega⟩, fun Ma ea => ?_⟩
        rw [Int.toNat_natCast] at ea
        exact leaf M9 Ma z t8 je8 f8 n8 so8 ⟨by omega, by omega⟩ ea (fun _ => ⟨z0, z1⟩) (fun q => by omega) pm8 (by
          obtain ⟨g1, g2, g3⟩ := t8.n79 hw
          unfold nvq
          rw [if_neg (by omega), if_pos (by omega), z9, g1, g2, show nt M9 (mR M9 a 2) = nt M (mR M a 2) from funext g3])
      · rw [Int.toNat_natCast] at e9
        exact leaf M8 M9 i t8 je8 f8 n8 so8 (i32s (by omega) (by omega)) e9 (fun q => absurd q z2) (fun _ => ⟨by omega, by omega, by rw [Int.toNat_natCast, ← hy]; exact z1⟩) pm8 (by unfold nvq; rw [if_pos (by rw [← hy]; exact z1)])
      · exact k_MM_part_267 w8.2.1 ⟨w8.2.1, hQ M8 (T + 1) t8 (by omega) (by omega) je8 (To.leaf f8 (by rw [so8]; omega) (fun z => by rw [so8] at z; exact absurd z z2) (fun z => by rw [so8] at z; exact absurd z z1)) n8 ⟨by
          subst hj1
          rw [Tm, Td_leaf hlo (by omega) hlf]
          exact ⟨rfl, by rw [so8, hy], pm8.1, f8, by rw [va8]; unfold nvq; rw [if_neg (by omega), if_neg (by omega)]⟩, pm8.2⟩⟩
    · -- a list
      have p7 := e7.pr.1
      have ex : x = -1 := by rw [hx]; exact hlo
      subst ex
      refine ⟨i32s (by omega) (by omega), w5.2.1, fun _ => ⟨w5.2.2.2, (s_MM_word1 (d := d + 3) w5.2.1 w5.1 (by omega)).mono (fun y M7 h7 => ?_)⟩, fun z => by omega⟩
      obtain ⟨e9, hy⟩ := h7
      subst e9
      rw [w5.2.2.1] at hy
      refine ⟨i32s (by omega) (by omega), w5.2.1, fun z => by omega, fun _ v hv => ⟨w5.2.2.2, ?_⟩⟩
      rw [if_neg (by omega)] at hv
      subst hv
      refine mk v i i _ (i32s (by omega) (by omega)) (by omega) (by omega) (fun M8 t8 je8 f8 n8 so8 _ pm8 => ⟨fun z => by omega, fun _ => ⟨fun z => by omega, fun _ => ⟨fun z => by omega, fun _ => ⟨fun _ => ⟨(wkx _ _ t8).2.2.2, ?_⟩, fun z => by omega⟩⟩⟩⟩)
      rw [show (i : Int) + 2 = ((i + 2 : Nat) : Int) by omega, show (j : Int) - 1 = ((j - 1 : Nat) : Int) by omega]
      refine (x_MM_list (d := d + 2) hw t8 (i32s (by omega) (by omega)) (by omega) (by omega) (by omega) e7).mono (fun Ma ha => ?_)
      obtain ⟨rs, f, ta, sa, jl, k4⟩ := ha
      exact ⟨ta.1.1, k_MM_part_267 ta.1.1 ⟨ta.1.1, kids rs M8 Ma jl.ne (fun i' j' z => ⟨by have := (jl.all i' j' z).2.2; omega, (jl.all i' j' z).1, by have := (jl.all i' j' z).2.1; omega⟩) (by omega) t8 je8 f8 n8 (by rw [so8]; exact Or.inr (Or.inr (Or.inr (by omega)))) ta sa pm8.2 (fun Mx Tx u1 u2 u3 u4 => by
        rw [Tm, Td_lst hlo hij h14]
        exact ⟨⟨by rw [u1, so8, hy], by rw [u2, pm8.1], u3⟩, tb_td jl u4⟩)⟩⟩
end MKX
section TQX
variable {G : mG} {d a N g T i j : Nat} {M : mM}
/-- a tree more -/
def trX (M : mM) (a g N T i j : Nat) (r : Int) (M' : mM) : Prop := Mv (trP a g) (fun _ => False) M a M' ∧ r = T ∧ ∃ T', nd M' g T' ∧ T < T' ∧ T' ≤ T + (j - i) ∧ To (nmw (wk M a) N) M' g 0 T T' ∧ np M' g T = -1 ∧ (Tm M M' a g 0 0 i j T T' ∧ ∀ n, n < T → pm M' g n = pm M g n) ∧ ∀ n, n < T → so M' g n = so M g n ∧ va M' g n = va M g n ∧ fp M' g n = fp M g n ∧ np M' g n = np M g n
theorem x_MM_tree (hO : mOk M) (h : Wx M a N) (hg : g = a + 13 ∨ g = a + 49) (hd : mR M a 10 = g) (hn : nd M g T) (he : Eo (wk M a) 6 i j) (hj : j < N) (hT : T + (j - i) ≤ 32000) : Ci G y_MM_tree (d + 6) [vr a, vi i, vi j] M (trX M a g N T i j) := by
  have w := h.1.1
  have hN := h.1.2.2
  have hij := he.pr.1
  have r18 : mR M a 18 = a + 91 := w.1.2.2.2.2.1.2.2.2.1
  refine k_MM_tree hO (i32s (by omega) (by omega)) (i32s (by omega) (by omega)) ?_
  rw [r18]
  refine ⟨w.1.1, (w.nu n91).1, fun M1 e1 => ?_⟩
  obtain ⟨m1, l1, -⟩ := mv_set hO w n91 (v := 0) (by omega) (w.nu n91).2.2.2.1.1 e1
  have w1 := m1.2.1
  have no := tL_no hg w
  have rt : mR M a 2 ≠ a + 91 := by rcases w.1.2.1 with y | y <;> rw [y.2] <;> omega
  have x1 : Wx M1 a N := h.mv m1 (fun q hq => by rw [hq]; exact n91) (by omega) (by omega) (by omega) rt
  have d1 : mR M1 a 10 = g := by rw [m1.rfl_a w (fun q hq => by rw [hq]; exact n91)]; exact hd
  have sm : ∀ q, tL g q → sameN M M1 q := fun q hq => m1.lst (tL_in hg hq) (fun z => by rw [z] at hq; exact no.2.2.2.2 hq)
  have n1 : nd M1 g T := fun q hq => by rw [(sm q hq).1]; exact hn q hq
  have gp := w1.gp hg
  have t1 : TI M a g N T [] M1 := ⟨m1.mono (fun q hq => Or.inr hq) (fun x hx => hx) (trP_lt hg w), x1, d1, n1, ⟨l1, fun i hi => by simp at hi⟩, hg⟩
  have s1 : sameT M M1 g := fun n => ⟨(sm _ (by omega)).2.1 n, (sm _ (by omega)).2.1 n, (sm _ (by omega)).2.1 n, (sm _ (by omega)).2.1 n⟩
  have lT : mI M1 (g + 1) 1 = T := n1 (g + 1) (by omega)
  rw [d1, gp.2.1.1, lT]
  refine ⟨gp.1, (w1.nu (tL_in hg (by omega))).1, (x_MM_job (d := d + 4) t1 (by simp) (i32s (by omega) (by omega)) (i32s (by omega) (by omega)) (i32s (by omega) (by omega))).mono (fun M2 h2 => ?_)⟩
  obtain ⟨t2, s2⟩ := h2
  refine ⟨t2.1.1, tr_runx (d := d) w (i32s (by omega) (by omega)) (j - i) i j (Nat.le_refl _) he hj M2 T (-1) [] t2 (by omega) (by omega) (fun z => by omega) (by omega) (by simp; omega) (fun M3 T' t3 h1 h2 je to nn tm => ?_)⟩
  have w3 := t3.2.1.1.1
  have r3 : mR M3 a 18 = a + 91 := w3.1.2.2.2.2.1.2.2.2.1
  have l3 : mI M3 (a + 91) 1 = 0 := t3.2.2.2.2.1.1
  refine k_MM_tree_26 t3.1.1 (i32s (by omega) (by omega)) ?_
  rw [r3, l3]
  refine ⟨w3.1.1, (w3.nu n91).1, fun _ => ⟨t3.1, rfl, T', t3.2.2.2.1, h1, h2, to, nn, ⟨tm.1, fun n hn => by rw [tm.2 n hn, s2.2]; exact (sm (g + 3) (by omega)).2.1 n⟩, fun n hnT => ?_⟩, fun z => by omega⟩
  have s12 := sameT.trans s1 s2.1
  rcases je.2 with ⟨-, q⟩ | ⟨q, -⟩ | ⟨q, -⟩
  · exact ⟨(je.1 n hnT).1.trans (s12 n).1, (je.1 n hnT).2.trans (s12 n).2.1, (q n hnT).1.trans (s12 n).2.2.1, (q n hnT).2.trans (s12 n).2.2.2⟩
  · omega
  · omega
end TQX
end
section
/-! The reference's names, exactly: sameWord, find, lookUp, lookAt. -/
section NAX
variable {G : mG} {d a N g K : Nat} {M : mM}
/-- two words with the same letters -/
def smx (M : mM) (a x y : Nat) : Prop := nt M (a + 9) y - nt M (a + 7) y = nt M (a + 9) x - nt M (a + 7) x ∧ ∀ i : Nat, (i : Int) < nt M (a + 9) x - nt M (a + 7) x → nt M (mR M a 2) ((nt M (a + 7) x).toNat + i) = nt M (mR M a 2) ((nt M (a + 7) y).toNat + i)
/-- the last known name that is spelt like y; -1: none -/
def fdx (M : mM) (a K y : Nat) (r : Int) : Prop := (r = -1 ∧ ∀ k, k < K → ¬ smx M a (nt M (a + 85) k).toNat y) ∨ ∃ q : Nat, r = q ∧ q < K ∧ smx M a (nt M (a + 85) q).toNat y ∧ ∀ k, q < k → k < K → ¬ smx M a (nt M (a + 85) k).toNat y
theorem x_MM_sameWord {x y : Nat} (hO : mOk M) (h : Wx M a N) (hx : x < N) (hy : y < N) : Ci G y_MM_sameWord (d + 2) [vr a, vi x, vi y] M (fun r M' => M' = M ∧ (r = 0 ∨ r = 1) ∧ (r = 1 ↔ smx M a x y)) := by
  have h0 := h
  obtain ⟨⟨w, l, b⟩, l7, l9, wo, hT⟩ := h
  obtain ⟨-, ⟨x1, x2, x3⟩, -⟩ := wo x hx
  obtain ⟨-, ⟨y1, y2, y3⟩, -⟩ := wo y hy
  have hp := w.tape.2.1
  have at9 : ∀ {k : Nat} {Q : Int → mM → Prop}, k < N → (∀ z, z = nt M (a + 9) k → i32 z → Q z M) → Ci G y_MN_at (d + 1) [vr (a + 9), vi k] M Q := fun hk hQ => by
    refine (s_MN_at hO (w.nu n9) (by omega)).mono (fun z M1 e1 => ?_)
    obtain ⟨e1, hz⟩ := e1
    subst e1
    exact hQ z hz (by rw [hz]; exact (hO _ _).1)
  have pl : ∀ {k : Nat} {Q : Int → mM → Prop}, k < N → (∀ z, z = nt M (a + 7) k → i32 z → Q z M) → Ci G y_MM_place0 (d + 1) [vr a, vi k] M Q := fun hk hQ => by
    refine (s_MM_place0 (d := d) hO h0 hk).mono (fun z M1 e1 => ?_)
    obtain ⟨e1, hz⟩ := e1
    subst e1
    exact hQ z hz (by rw [hz]; exact (hO _ _).1)
  refine k_MM_sameWord hO (i32s (by omega) (by omega)) (i32s (by omega) (by omega)) ?_
  rw [w.1.2.2.1.2.2.1]
  refine ⟨w.1.1, (w.nu n9).1, at9 hx (fun z1 e1 i1 => ⟨i1, hO, w.1.1, pl hx (fun z2 e2 i2 => ⟨i2, hO, w.1.1, ?_⟩)⟩)⟩
  rw [w.1.2.2.1.2.2.1]
  refine ⟨(w.nu n9).1, at9 hy (fun z3 e3 i3 => ⟨i3, hO, w.1.1, pl hy (fun z4 e4 i4 => ⟨i4, hO, i32s (by omega) (by omega), i32s (by omega) (by omega), fun v hv => ?_⟩)⟩)⟩
  have hlen : v = 1 → z3 - z4 = z1 - z2 := fun q => by split at hv <;> omega
  suffices H : ∀ (c t : Nat) (u : Int), (t : Int) + c = z1 - z2 → (u = 0 ∨ u = 1) → (u = 1 → z3 - z4 = z1 - z2) → ((u = 1 ∧ ∀ i : Nat, i < t → nt M (mR M a 2) ((nt M (a + 7) x).toNat + i) = nt M (mR M a 2) ((nt M (a + 7) y).toNat + i)) ∨ (u = 0 ∧ ¬ smx M a x y)) → h_MM_sameWord_43 G (d + 1) a x y (z1 - z2) u t M (fun r M' => M' = M ∧ (r = 0 ∨ r = 1) ∧ (r = 1 ↔ smx M a x y)) from
    H (z1 - z2).toNat 0 v (by omega) (by split at hv <;> omega) hlen (by
      split at hv
      · exact Or.inl ⟨by omega, fun i hi => absurd hi (by omega)⟩
      · exact Or.inr ⟨by omega, fun q => by have := q.1; omega⟩)
  intro c
  induction c with
  | zero =>
    intro t u ht hu hl iv
    exact k_MM_sameWord_43 hO (i32s (by omega) (by omega)) (i32s (by omega) (by omega)) (i32s (by omega) (by omega)) (i32s (by omega) (by omega)) (i32s (by omega) (by omega)) ⟨fun _ => ⟨hu, rfl, hu, by
      rcases iv with ⟨v1, v2⟩ | ⟨v1, v2⟩
      · exact ⟨fun _ => ⟨by have := hl v1; omega, fun i hi => v2 i (by omega)⟩, fun _ => v1⟩
      · exact ⟨fun q => by omega, fun q => absurd q v2⟩⟩, fun q => absurd (Or.inl (by omega)) q⟩
  | succ c ih =>
    intro t u ht hu hl iv
    refine k_MM_sameWord_43 hO (i32s (by omega) (by omega)) (i32s (by omega) (by omega)) (i32s (by omega) (by omega)) (i32s (by omega) (by omega)) (i32s (by omega) (by omega)) ⟨fun qq => ⟨hu, rfl, hu, by
      rcases iv with ⟨v1, v2⟩ | ⟨v1, v2⟩
      · omega
      · exact ⟨fun q => by omega, fun q => absurd q v2⟩⟩, fun q => ⟨w.1.1, pl hx (fun u1 f1 j1 => ⟨j1, hO, (w.nu hp).1, ?_⟩)⟩⟩
    have hu1 := hl (by omega)
    rw [show u1 + (t : Int) = (((u1 + (t : Int)).toNat : Nat) : Int) by omega]
    refine (s_MN_at hO (w.nu hp) (by omega)).mono (fun v1 M2 g2 => ?_)
    obtain ⟨g2, hv1⟩ := g2
    subst g2
    refine ⟨by rw [hv1]; exact (hO _ _).1, hO, w.1.1, pl hy (fun u2 f2 j2 => ⟨j2, hO, (w.nu hp).1, ?_⟩)⟩
    rw [show u2 + (t : Int) = (((u2 + (t : Int)).toNat : Nat) : Int) by omega]
    refine (s_MN_at hO (w.nu hp) (by omega)).mono (fun v2 M3 g3 => ?_)
    obtain ⟨g3, hv2⟩ := g3
    subst g3
    exact ⟨by rw [hv2]; exact (hO _ _).1, hO, fun v3 hv3 => ih (t + 1) v3 (by omega) (by split at hv3 <;> omega) (fun _ => hu1) (by
      obtain ⟨w1, w2⟩ : u = 1 ∧ ∀ i : Nat, i < t → nt M3 (mR M3 a 2) ((nt M3 (a + 7) x).toNat + i) = nt M3 (mR M3 a 2) ((nt M3 (a + 7) y).toNat + i) := by
        rcases iv with v | ⟨v1, -⟩
        · exact v
        · exact absurd (Or.inr v1) q
      have ex : (u1 + (t : Int)).toNat = (nt M3 (a + 7) x).toNat + t := by rw [f1]; omega
      have ey : (u2 + (t : Int)).toNat = (nt M3 (a + 7) y).toNat + t := by rw [f2]; omega
      rw [ex] at hv1
      rw [ey] at hv2
      split at hv3
      · rename_i qq
        refine Or.inl ⟨by omega, fun i hi => ?_⟩
        by_cases c : i < t
        · exact w2 i c
        · rw [show i = t by omega, ← hv1, ← hv2]; exact qq
      · rename_i qq
        exact Or.inr ⟨by omega, fun z => qq (by rw [hv1, hv2]; exact z.2 t (by omega))⟩)⟩
theorem x_MM_find {y : Nat} (hO : mOk M) (h : Wx M a N) (hn : Nm M a g N K) (hy : y < N) : Ci G y_MM_find (d + 3) [vr a, vi y] M (fun r M' => M' = M ∧ (-1 ≤ r ∧ r < K) ∧ fdx M a K y r) := by
  have w := h.1.1
  have hN := h.1.2.2
  obtain ⟨n1, n2, n3, n4, n5'⟩ := hn
  have r13 : mR M a 13 = a + 85 := w.1.2.2.2.2.1.1
  have l1 : mI M (a + 85) 1 = K := n1
  refine k_MM_find hO (i32s (by omega) (by omega)) ?_
  suffices H : ∀ (c k : Nat) (f : Int), k + c = K → -1 ≤ f → f < K → fdx M a k y f → h_MM_find_4 G (d + 2) a y f k M (fun r M' => M' = M ∧ (-1 ≤ r ∧ r < K) ∧ fdx M a K y r) from
    H K 0 (-1) (by omega) (by omega) (by omega) (Or.inl ⟨rfl, fun k hk => absurd hk (by omega)⟩)
  intro c
  induction c with
  | zero =>
    intro k f hk f0 f1 fd
    refine k_MM_find_4 hO (i32s (by omega) (by omega)) (i32s (by omega) (by omega)) (i32s (by omega) (by omega)) ?_
    rw [r13, l1]
    exact ⟨w.1.1, (w.nu n85).1, fun _ => ⟨rfl, ⟨f0, f1⟩, by rw [show K = k by omega]; exact fd⟩, fun q => by omega⟩
  | succ c ih =>
    intro k f hk f0 f1 fd
    obtain ⟨⟨a1, a2⟩, -⟩ := n5' k (by omega)
    refine k_MM_find_4 hO (i32s (by omega) (by omega)) (i32s (by omega) (by omega)) (i32s (by omega) (by omega)) ?_
    rw [r13, l1]
    refine ⟨w.1.1, (w.nu n85).1, fun q => by omega, fun _ => (s_MN_at hO (w.nu n85) (by omega)).mono (fun z M1 e1 => ?_)⟩
    obtain ⟨e1, hz⟩ := e1
    subst e1
    refine ⟨by rw [hz]; exact (hO _ _).1, hO, w.1.1, ?_⟩
    rw [show z = ((z.toNat : Nat) : Int) by omega]
    refine (x_MM_sameWord (d := d) hO h (by omega) hy).mono (fun r M2 e2 => ?_)
    obtain ⟨e2, hr, hs⟩ := e2
    subst e2
    exact ⟨i32s (by omega) (by omega), hO, fun v hv => ih (k + 1) v (by omega) (by split at hv <;> omega) (by split at hv <;> omega) (by
      rw [hz] at hs
      split at hv
      · rename_i r0
        have ns : ¬ smx M2 a (nt M2 (a + 85) k).toNat y := fun u => by have := hs.mpr u; omega
        rw [hv]
        rcases fd with ⟨d1, d2⟩ | ⟨q, d1, d2, d3, d4⟩
        · refine Or.inl ⟨d1, fun k' hk' => ?_⟩
          by_cases c : k' < k
          · exact d2 k' c
          · rw [show k' = k by omega]; exact ns
        · refine Or.inr ⟨q, d1, by omega, d3, fun k' h1 h2 => ?_⟩
          by_cases c : k' < k
          · exact d4 k' h1 c
          · rw [show k' = k by omega]; exact ns
      · exact Or.inr ⟨k, by omega, by omega, hs.mp (by omega), fun k' h1 h2 => absurd h1 (by omega)⟩)⟩
end NAX
section LKX
variable {G : mG} {d a N g T K : Nat} {M M2 : mM}
/-- what names stand for: E kinds (-1 unknown), rv how they are resolved -/
def URq (M : mM) (a g N K : Nat) (co : Int) (E rv : Nat → Int) : Prop := ∀ (y : Nat) (r : Int), y < N → wk M a y = 1 → fdx M a K y r → ((r = -1 ∨ (co ≠ 0 ∧ nt M (a + 87) r.toNat ≠ 1)) → E y = -1) ∧ (¬ (r = -1 ∨ (co ≠ 0 ∧ nt M (a + 87) r.toNat ≠ 1)) → rv y = (if nt M (a + 87) r.toNat = 3 then 100 + nt M (a + 89) r.toNat else nt M (a + 89) r.toNat) ∧ E y = tn M g (rv y))
theorem LO.pm (w : Wd M a) (h : LO M a g N T K M2) (n : Nat) : pm M2 g n = pm M g n := by
  have hg := h.2.1.2.2.2.2.2.1
  exact (h.1.lst (tL_in hg (by omega)) (by omega)).2.1 n
/-- what a look leaves alone -/
theorem LO.txt (w : Wd M a) (h : LO M a g N T K M2) : (∀ k, nt M2 (a + 7) k = nt M (a + 7) k) ∧ (∀ k, nt M2 (a + 9) k = nt M (a + 9) k) ∧ (∀ k, nt M2 (mR M2 a 2) k = nt M (mR M a 2) k) ∧ (∀ k, nt M2 (a + 85) k = nt M (a + 85) k) ∧ (∀ k, nt M2 (a + 87) k = nt M (a + 87) k) ∧ (∀ k, nt M2 (a + 89) k = nt M (a + 89) k) ∧ wk M2 a = wk M a := by
  have hg := h.2.1.2.2.2.2.2.1
  have no := lkP_no hg w
  have r := h.1.rfl_a w (fun q hq => lkP_in hg hq)
  exact ⟨fun k => (h.1.lst n7 no.2.1).2.1 k, fun k => (h.1.lst n9 no.2.2.1).2.1 k, fun k => by rw [r]; exact (h.1.lst w.tape.2.1 no.2.2.2.1).2.1 k, fun k => (h.1.lst n85 no.2.2.2.2.1).2.1 k, fun k => (h.1.lst n87 no.2.2.2.2.2.1).2.1 k, fun k => (h.1.lst n89 no.2.2.2.2.2.2).2.1 k, funext (fun k => (h.1.lst n5 no.1).2.1 k)⟩
theorem LO.fd {y : Nat} {r : Int} (w : Wd M a) (h : LO M a g N T K M2) (k : fdx M2 a K y r) : fdx M a K y r := by
  obtain ⟨k1, k2, k3, k4, -⟩ := h.txt w
  have sm : ∀ x y, smx M2 a x y = smx M a x y := fun x y => by
    unfold smx
    simp only [k1, k2, k3]
  unfold fdx at k ⊢
  simp only [sm, k4] at k
  exact k
/-- looking up ends -/
def luX (co : Int) (M M2 : mM) (a g N T K n : Nat) (E rv : Nat → Int) (r : Int) (M3 : mM) : Prop := LO M a g N T K M3 ∧ (r = 0 ∨ r = 1) ∧ sameN M2 M3 (a + 93) ∧ sameN M2 M3 (a + 95) ∧ ((mI M3 a 16 = 2 ∧ (mI M3 a 17 = pm M g n ∧ E (va M2 g n).toNat = -1) ∧ ∀ k, va M3 g k = va M2 g k) ∨ (mI M3 a 16 = mI M2 a 16 ∧ (nmr co M g (va M3 g n) ∧ r = tn M g (va M3 g n) ∧ (va M3 g n = rv (va M2 g n).toNat ∧ E (va M2 g n).toNat = r)) ∧ ∀ k, k ≠ n → va M3 g k = va M2 g k))
theorem x_MM_lookUp {n : Nat} {co : Int} {E rv : Nat → Int} (hU : URq M a g N K co E rv) (hco : i32 co) (hw0 : Wd M a) (h : LO M a g N T K M2) (hn : n < T) (hv : 0 ≤ va M2 g n ∧ va M2 g n < N) (hw1 : wk M a (va M2 g n).toNat = 1) : Ci G y_MM_lookUp (d + 4) [vr a, vi n, vi co] M2 (luX co M M2 a g N T K n E rv) := by
  obtain ⟨hO, hx, hnm, hd, h10, hg, hb, hT⟩ := id h.2.1
  have w := hx.1.1
  have gp := w.gp hg
  obtain ⟨n1, n2, n3, n4, n5'⟩ := id hnm
  have r3 : mR M2 g 3 = g + 7 := gp.2.1.2.2.2.1
  have r1 : mR M2 g 1 = g + 3 := gp.2.1.2.1
  have r14 : mR M2 a 14 = a + 87 := w.1.2.2.2.2.1.2.1
  have r15 : mR M2 a 15 = a + 89 := w.1.2.2.2.2.1.2.2.1
  have u7 := w.nu (tL_in (a := a) (q := g + 7) hg (by omega))
  have u3 := w.nu (tL_in (a := a) (q := g + 3) hg (by omega))
  have l7 := hd (g + 7) (by omega)
  have l3 := hd (g + 3) (by omega)
  have c7 : (T : Int) ≤ cp M2 (g + 7) := by rw [← l7]; exact u7.2.2.2.1.2
  have gI := h.2.2.2.2
  -- a list is read
  have rd : ∀ {p k : Nat} {Q : Int → mM → Prop}, p ∈ nums a → (k : Int) < ln M2 p → (∀ z, z = nt M2 p k → i32 z → Q z M2) → Ci G y_MN_at (d + 3) [vr p, vi k] M2 Q := fun hp hk hQ => by
    refine (s_MN_at hO (w.nu hp) hk).mono (fun z M1 e1 => ?_)
    obtain ⟨e1, hz⟩ := e1
    subst e1
    exact hQ z hz (by rw [hz]; exact (hO _ _).1)
  -- the fault is told
  have flt : ∀ (y : Int), i32 y → y = pm M2 g n → E (va M2 g n).toNat = -1 → Cv G y_MM_stop (d + 3) [vr a, vi 2, vi y] M2 (fun M4 => mOk M4 ∧ luX co M M2 a g N T K n E rv 0 M4) := fun y hy yp yE => by
    refine (s_MM_stop (i32s (by omega) (by omega)) hy hO w).mono (fun M4 h4 => ?_)
    obtain ⟨m4, f1, f2, f3⟩ := h4
    have s7 := m4.lst (tL_in (a := a) (q := g + 7) hg (by omega)) (fun z => z)
    exact ⟨m4.1, h.step m4 (fun q hq => hq.elim) (fun x hx => hx) s7.1 f3, Or.inl rfl, m4.lst n93 (fun z => z), m4.lst n95 (fun z => z), Or.inl ⟨f1, ⟨by rw [f2, yp]; exact h.pm hw0 n, yE⟩, fun k => s7.2.1 k⟩⟩
  refine k_MM_lookUp hO (i32s (by omega) (by omega)) hco ?_
  rw [h10, r3]
  refine ⟨w.1.1, gp.1, u7.1, rd (tL_in hg (by omega)) (by omega) (fun x1 e1 i1 => ⟨i1, hO, w.1.1, ?_⟩)⟩
  have e1' : x1 = va M2 g n := e1
  rw [show x1 = ((x1.toNat : Nat) : Int) by omega]
  refine (x_MM_find (d := d) hO hx hnm (by omega)).mono (fun k M3 h3 => ?_)
  obtain ⟨e3, ⟨k0, k1⟩, kf⟩ := h3
  subst e3
  obtain ⟨x1', x2', x3', x4', x5', x6', x7'⟩ := h.txt hw0
  have hUn := hU x1.toNat k (by omega) (by rw [e1']; exact hw1) (h.fd hw0 kf)
  have fault : E (va M3 g n).toNat = -1 → Ci G y_MN_at (d + 3) [vr (g + 3), vi n] M3 (fun x18 M17 => i32 x18 ∧ mOk M17 ∧ (mK M17 a = 14 ∧ Cv G y_MM_stop (d + 3) [vr a, vi 2, vi x18] M17 (fun M21 => mOk M21 ∧ luX co M M3 a g N T K n E rv 0 M21))) := fun eE => rd (tL_in hg (by omega)) (by omega) (fun y ey iy => ⟨iy, hO, w.1.1, flt y iy ey eE⟩)
  -- the name's place among the known ones
  have good : ∀ (kk : Nat) (x : Int), kk < K → x = nt M3 (a + 89) kk → i32 x → (co ≠ 0 → nt M3 (a + 87) kk = 1) → (rv (va M3 g n).toNat = (if nt M3 (a + 87) kk = 3 then 100 + x else x) ∧ E (va M3 g n).toNat = tn M g (rv (va M3 g n).toNat)) → (mK M3 g = 16 ∧ mK M3 (g + 7) = 15 ∧ mK M3 (a + 87) = 15 ∧ Ci G y_MN_at (d + 3) [vr (a + 87), vi kk] M3 (fun x36 M35 => i32 x36 ∧ mOk M35 ∧ (∀ v39 : Int, v39 = (if (x36 = 3) then 100 + x else x) → mK M35 (mR M3 (g + 7) 0) = 30 ∧ ((0 : Int) ≤ n ∧ (n : Int) < (mN M35 (mR M3 (g + 7) 0) : Int)) ∧ i32 v39 ∧ ∀ M45, M45 = mUI M35 (mR M3 (g + 7) 0) (Int.toNat n) v39 → mK M45 a = 14 ∧ mK M45 (mR M45 a 14) = 15 ∧ Ci G y_MN_at (d + 3) [vr (mR M45 a 14), vi kk] M45 (fun x50 M49 => i32 x50 ∧ mOk M49 ∧ ((((x50 = 3) → (mK M49 a = 14 ∧ mK M49 (mR M49 a 10) = 16 ∧ mK M49 (mR M49 (mR M49 a 10) 13) = 31 ∧ ((0 : Int) ≤ x ∧ x < (mN M49 (mR M49 (mR M49 a 10) 13) : Int)))) ∧ (¬ (x50 = 3) → (mK M49 a = 14 ∧ mK M49 (mR M49 a 10) = 16 ∧ mK M49 (mR M49 (mR M49 a 10) 8) = 31 ∧ ((0 : Int) ≤ x ∧ x < (mN M49 (mR M49 (mR M49 a 10) 8) : Int))))) ∧ ∀ v61 : Int, v61 = (if (x50 = 3) then mI M49 (mR M49 (mR M49 a 10) 13) (Int.toNat x) else mI M49 (mR M49 (mR M49 a 10) 8) (Int.toNat x)) → i32 v61 ∧ ∀ v66 : Int, v66 = (if (v61 = 0) then 0 else 1) → luX co M M3 a g N T K n E rv v66 M49))))) := fun kk x hkk ex ix hc1 hrv => by
    obtain ⟨-, hk, hk1⟩ := n5' kk hkk
    rw [← ex] at hk hk1
    refine ⟨gp.1, u7.1, (w.nu n87).1, rd n87 (by omega) (fun s es is => ⟨is, hO, fun v hv => ⟨u7.2.1, ⟨by omega, by have : mN M3 (mR M3 (g + 7) 0) = cp M3 (g + 7) := rfl; omega⟩, i32s (by split at hv <;> omega) (by split at hv <;> omega), fun M4 e4 => ?_⟩⟩)⟩
    rw [← es] at hk hc1 hk1 hrv
    rw [Int.toNat_natCast] at e4
    obtain ⟨m4, l4, k4, -⟩ := mv_el (v := v) (i32s (by split at hv <;> omega) (by split at hv <;> omega)) hO w (tL_in (a := a) (q := g + 7) hg (by omega)) e4
    have w4 := m4.2.1
    have f4 := (m4.fld w (fun q hq => by rw [hq]; exact tL_in hg (by omega)) (fun hq => hq)).1
    have L4 : LO M a g N T K M4 := h.step m4 (fun q hq => Or.inr (Or.inr hq)) (fun x hx => hx.elim) l4 (fun i _ _ => by rw [f4])
    have s87 := m4.lst (n87 (a := a)) (by omega)
    have gp4 := w4.gp hg
    have d4 : mR M4 a 10 = g := L4.2.1.2.2.2.2.1
    have r144 : mR M4 a 14 = a + 87 := w4.1.2.2.2.2.1.2.1
    rw [r144]
    refine ⟨w4.1.1, (w4.nu n87).1, (s_MN_at m4.1 (w4.nu n87) (by rw [s87.1]; omega)).mono (fun s' M5 e5 => ?_)⟩
    obtain ⟨e5, hs'⟩ := e5
    subst e5
    rw [s87.2.1, ← es] at hs'
    subst hs'
    rw [d4, gp4.2.2.1.1, gp4.2.1.2.2.2.2.2.2.2.1, gp4.2.2.2.2.1.1.2, gp4.2.2.2.1.2.1.2]
    refine ⟨is, m4.1, ⟨fun q => ⟨w4.1.1, gp4.1, gp4.2.2.2.2.1.1.1, by omega⟩, fun q => ⟨w4.1.1, gp4.1, gp4.2.2.2.1.2.1.1, by omega⟩⟩, fun u hu => ⟨by rw [hu]; split <;> exact (m4.1 _ _).1, fun z hz => ⟨L4, by split at hz <;> omega, m4.lst n93 (by omega), m4.lst n95 (by omega), Or.inr ⟨by rw [f4], ?_, fun k hk => by show nt M5 (g + 7) k = _; rw [k4 k, if_neg hk]⟩⟩⟩⟩
    show nmr co M g (nt M5 (g + 7) n) ∧ z = tn M g (nt M5 (g + 7) n) ∧ (nt M5 (g + 7) n = _ ∧ _)
    rw [k4 n, if_pos rfl]
    have zt : z = tn M g v := by
      obtain ⟨y1, y2⟩ := L4.tn hw0
      rw [hz, hu, y1, y2]
      unfold tn
      by_cases c3 : s' = 3
      · rw [if_pos c3] at hv
        rw [if_pos c3, hv, if_pos (show (100 : Int) ≤ 100 + x by omega), show (100 + x - 100).toNat = x.toNat by omega]
      · rw [if_neg c3] at hv
        rw [if_neg c3, hv, if_neg (show ¬ (100 : Int) ≤ x by omega)]
    refine ⟨?_, zt, by rw [hv, hrv.1], by rw [hrv.2, hrv.1, ← hv]; exact zt.symm⟩
    · unfold nmr
      rw [← gI]
      have f13 := h.fm hw0
      rw [← f13]
      by_cases c3 : s' = 3
      · rw [if_pos c3] at hv
        refine Or.inr ⟨?_, by omega, by omega, by omega⟩
        by_cases z0 : co = 0
        · exact z0
        · have := hc1 z0
          omega
      · rw [if_neg c3] at hv
        refine Or.inl ⟨by omega, by omega, by omega, fun z0 => ?_⟩
        rw [hv]
        exact hk1 (hc1 z0)
  refine ⟨i32s (by omega) (by omega), hO, fun q => ?_, fun q => ⟨fun q2 => ?_, fun q2 => ?_⟩⟩
  · rw [h10, r1]
    exact ⟨w.1.1, gp.1, u3.1, fault (by rw [← e1']; exact hUn.1 (Or.inl (by omega)))⟩
  · rw [r15, show k = ((k.toNat : Nat) : Int) by omega]
    refine ⟨w.1.1, (w.nu n89).1, rd n89 (by omega) (fun x ex ix => ⟨ix, hO, w.1.1, ?_⟩)⟩
    rw [h10, r3, r14]
    exact good k.toNat x (by omega) ex ix (fun z => absurd q2 z) (by
      obtain ⟨u1, u2⟩ := hUn.2 (by omega)
      rw [← e1', u2, u1, ex, x5', x6']
      exact ⟨rfl, rfl⟩)
  · rw [r14, show k = ((k.toNat : Nat) : Int) by omega]
    refine ⟨w.1.1, (w.nu n87).1, rd n87 (by omega) (fun s es is => ⟨is, hO, fun q3 => ?_, fun q3 => ?_⟩)⟩
    · rw [r15]
      refine ⟨w.1.1, (w.nu n89).1, rd n89 (by omega) (fun x ex ix => ⟨ix, hO, w.1.1, ?_⟩)⟩
      rw [h10, r3, r14]
      exact good k.toNat x (by omega) ex ix (fun _ => es.symm.trans q3) (by
        have s1 : nt M (a + 87) k.toNat = 1 := by rw [← x5']; exact es.symm.trans q3
        obtain ⟨u1, u2⟩ := hUn.2 (by omega)
        rw [← e1', u2, u1, ex, x5', x6']
        exact ⟨rfl, rfl⟩)
    · rw [h10, r1]
      exact ⟨w.1.1, gp.1, u3.1, fault (by
        rw [← e1']
        refine hUn.1 (Or.inr ⟨q2, ?_⟩)
        rw [← x5']
        exact fun u => q3 (es.trans u))⟩
end LKX
end
