/-! The reference: the items of a text are read. -/
section ITE
variable {G : mG} {d a g R W C T Z T2 T3 N K : Nat} {M M2 M3 : mM} {E : Nat → Nat} {tg : Int}
/-- the items have been read -/
def itmQ (M : mM) (a g N : Nat) (M' : mM) : Prop := iF M a g M' ∧ (mI M' a 16 ≠ 0 ∨ (mI M' a 16 = 0 ∧ ∃ (T K R W C Z : Nat) (E : Nat → Nat) (tg : Int), Df M' a g N T K R W C Z E tg ∧ T < N ∧ Z < N ∧ 0 ≤ tg))
theorem Df.tgt {M4 : mM} (h : Df M2 a g N T2 K R W C Z E tg) (t1 : T2 < T3) (Rl : rlR 0 M2 a g N T2 K T3 1 M3) (hT3 : T3 ≤ 30000) (e : M4 = mUI M3 g 17 (T2 : Int)) : iF M2 a g M4 ∧ mI M4 a = mI M3 a ∧ mOk M4 ∧ (mI M3 a 16 = 0 → Df M4 a g N T3 K R W C Z E (T2 : Int)) := by
  obtain ⟨hL, ⟨g6, g12, g18, g17⟩, ⟨y30, y32, y34⟩, hK, hD⟩ := h
  obtain ⟨I3, G3, z30, z32, z34⟩ := rlR.ge (R := R) (W := W) (C := C) (Z := Z) hL Rl
  have L3 := Rl.2.1
  have g3 : mI M3 g = mI M2 g := Rl.2.2.2.1
  have hg := L3.2.2.2.2.2.1
  have hB := L3.2.2.2.2.2.2.1
  have w3 := L3.2.1.1.1
  have a0 := goff0 hg
  obtain ⟨m1, f1, l1⟩ := mv_cell (v := (T2 : Int)) (i32s (by omega) (by omega)) L3.1 w3 (show a ≤ g by omega) ⟨a0.1, a0.2.1, a0.2.2.1⟩ e
  have no : ∀ q : Nat, False → q ∈ nums a := fun _ z => z.elim
  have aI1 := (m1.fld w3 no (by omega)).1
  have n17 : ∀ i, i ≠ 17 → mI M4 g i = mI M3 g i := fun i hi => by rw [f1, if_neg (fun z => hi z.2)]
  have x17 : mI M4 g 17 = (T2 : Int) := by rw [f1, if_pos ⟨rfl, rfl⟩]
  have L4 : Lc M4 a g N T3 K := L3.mv m1 no (fun _ z => z.elim) (by rw [n17 6 (by omega)]; omega) (by rw [n17 12 (by omega)]; omega) (by rw [n17 6 (by omega), n17 12 (by omega)]; omega) (fun r _ => by rw [f1, if_neg (fun z => by omega)])
  have s : ∀ {q}, q ∈ nums a → sameN M3 M4 q := fun hq => m1.lst hq (fun z => z)
  refine ⟨I3.trans (iF.mk w3 m1 (fun _ z => z.elim) (fun x z => Or.inr (Or.inl (by omega))) (fun i _ _ _ => by rw [aI1])), aI1, m1.1, fun z => ?_⟩
  have G4 : Ge M3 g R W C Z T3 M4 := ge_mv w3 hg m1 no (fun z => z) (fun z => z) (fun i i1 i2 (z : g + i = g) => by omega) (fun n _ => ⟨(s (tL_in (q := g + 1) hg (by omega))).2.1 n, (s (tL_in (q := g + 7) hg (by omega))).2.1 n, (s (tL_in (q := g + 9) hg (by omega))).2.1 n, (s (tL_in (q := g + 11) hg (by omega))).2.1 n⟩)
  have rt := (rl_rt hL g6 g12 hD Rl z).gn G4.1 hD.1.1
  exact ⟨L4, ⟨by rw [n17 6 (by omega), g3]; exact g6, by rw [n17 12 (by omega), g3]; exact g12, by rw [n17 18 (by omega), g3]; exact g18, x17⟩, ⟨by rw [(s (n30 hg)).1, z30]; exact y30, by rw [(s (n32 hg)).1, z32]; exact y32, by rw [(s (n34 hg)).1, z34]; exact y34⟩, hK, (((hD.ge (G3 z)).tu (Nat.le_of_lt t1)).ge G4).tgu (Or.inr rt)⟩
theorem Lc.ue {k e : Nat} {Q : Int → mM → Prop} (h : Lc M a g N T K) (hi : It (wk M a) k e) (he : e < N) (hQ : Q e M) : Ci G y_MM_until (d + 2) [vr a, vi k, vi 34] M Q := by
  refine (s_until_end (d := d) h.1 h.2.1.1 hi he).mono (fun x M1 e1 => ?_)
  obtain ⟨e1, hx⟩ := e1
  subst e1
  rw [hx]
  exact hQ
theorem s_it_x {k : Int} (ik : i32 k) (w2 : Wd M2 a) (o2 : mOk M2) (hI : iF M a g M2) (z : mI M2 a 16 ≠ 0) : h_MM_items0_38 G (d + 10) a k M2 (fun M' => mOk M' ∧ itmQ M a g N M') :=
  k_MM_items0_38 o2 ik ⟨w2.1.1, fun y => absurd y z, fun _ => ⟨fun y => absurd y z, fun _ => k_MM_items0_218 o2 ⟨o2, hI, Or.inl z⟩, fun y => absurd (Or.inl z) y⟩⟩
theorem s_it_run (hN : N ≤ 16385) (hg : g = a + 13 ∨ g = a + 49) : ∀ (f k : Nat) (M2 : mM), Ac (wk M a) N f [50] k → iF M a g M2 → mI M2 a 16 = 0 → (∃ (T K R W C Z : Nat) (E : Nat → Nat) (tg : Int), Df M2 a g N T K R W C Z E tg ∧ T ≤ k ∧ Z ≤ k) → h_MM_items0_38 G (d + 10) a k M2 (fun M' => mOk M' ∧ itmQ M a g N M') := by
  intro f
  induction f using Nat.strongRecOn with
  | ind f ih =>
    intro k M2 hac hI z2 hDf
    obtain ⟨T, K, R, W, C, Z, E, tg, h, hT, hZ⟩ := hDf
    have hL := h.1
    have w2 := hL.2.1.1.1
    have wkE := hI.wk hg
    have hkN := ac_le hac
    have h17 := h.2.1.2.2.2
    have ik : i32 (k : Int) := i32s (by omega) (by omega)
    -- after an item
    have nxt : ∀ (e g' : Nat) (M3 : mM), g' < f → e < N → Ac (wk M a) N g' [50] (e + 1) → itQ M2 a g N (e + 1) M3 → h_MM_items0_183 G (d + 10) a e M3 (fun M' => mOk M' ∧ itmQ M a g N M') := fun e g' M3 hg' he hac' hq => by
      obtain ⟨I3, hq⟩ := hq
      have I03 := hI.trans I3
      refine k_MM_items0_183 I3.1.1 (i32s (by omega) (by omega)) ?_
      rw [show (e : Int) + 1 = ((e + 1 : Nat) : Int) by omega]
      rcases hq with y | ⟨y1, y2⟩
      · exact s_it_x (i32s (by omega) (by omega)) I3.1.2.1 I3.1.1 I03 y
      · exact ih g' hg' (e + 1) M3 hac' I03 y1 y2
    rcases ac_item hac with ⟨c0, c1⟩ | ⟨c0, e, g', hg', hit, hac'⟩
    · have kN : k < N := by omega
      refine k_MM_items0_38 hL.1 ik ⟨w2.1.1, fun _ => hL.wd (d := d + 9) kN (fun x hx ix => ⟨ix, hL.1, fun _ => ⟨w2.1.1, ?_⟩, fun q => absurd (hx.trans (by rw [wkE]; exact c0)) q⟩), fun y => absurd z2 y⟩
      rw [show mR M2 a 10 = g from hL.2.2.2.2.1, h17]
      refine ⟨fun _ => (w2.gp hg).1, fun q => k_MM_items0_218 hL.1 ⟨hL.1, hI, Or.inr ⟨z2, T, K, R, W, C, Z, E, tg, h, by omega, by omega, ?_⟩⟩, fun _ => ?_⟩
      · rcases q with q | q
        · exact absurd z2 q
        · exact q
      · refine (s_MM_place0 (d := d + 9) hL.1 hL.2.1 kN).mono (fun y M5 h5 => ?_)
        obtain ⟨e5, hy⟩ := h5
        subst e5
        have hy32 : i32 y := by rw [hy]; exact (hL.1 _ _).1
        refine ⟨hy32, hL.1, w2.1.1, (s_MM_stop ⟨by decide, by decide⟩ hy32 hL.1 w2).mono (fun M6 h6 => ⟨h6.1.1, k_MM_items0_218 h6.1.1 ⟨h6.1.1, hI.trans (iF.mk w2 h6.1 (fun _ z => z.elim) (fun x z => Or.inl z) (fun i i1 i2 _ => h6.2.2.2 i i1 i2)), Or.inl (by rw [h6.2.1]; decide)⟩⟩)⟩
    · have he1 := ac_le hac'
      have hke := hit.2.1
      have kN : k < N := by omega
      have eN : e < N := by omega
      refine k_MM_items0_38 hL.1 ik ⟨w2.1.1, fun _ => hL.wd (d := d + 9) kN (fun x hx ix => ⟨ix, hL.1, fun q => ?_, fun _ => ⟨w2.1.1, ?_⟩⟩), fun y => absurd z2 y⟩
      · rw [wkE] at hx
        exact absurd (hx.symm.trans q) c0
      have hit2 : It (wk M2 a) k e := by rw [wkE]; exact hit
      refine hL.ue (d := d + 8) hit2 eN ⟨i32s (by omega) (by omega), hL.1, w2.1.1, hL.wd (d := d + 9) kN (fun x2 hx2 ix2 => ⟨ix2, hL.1, ?_⟩)⟩
      obtain ⟨-, -, hsh⟩ := hit2
      have go : ∀ M3, mOk M3 ∧ itQ M2 a g N (e + 1) M3 → mOk M3 ∧ h_MM_items0_183 G (d + 10) a e M3 (fun M' => mOk M' ∧ itmQ M a g N M') := fun M3 t => ⟨t.1, nxt e g' M3 hg' eN hac' t.2⟩
      refine ⟨fun q1 => ⟨w2.1.1, ?_⟩, fun q1 => ⟨fun q2 => ⟨w2.1.1, ?_⟩, fun q2 => ⟨fun q3 => ⟨w2.1.1, ?_⟩, fun q3 => ⟨w2.1.1, ?_⟩⟩⟩⟩
      · rcases hsh with ⟨y0, -, -, y1⟩ | ⟨y0, -⟩ | ⟨y0, -⟩ | ⟨y0, -⟩
        · exact (s_MM_ruleItem (d := d + 3) h y0 y1 eN hT hZ).mono go
        · omega
        · omega
        · omega
      · rcases hsh with ⟨y0, -⟩ | ⟨y0, -, -, i, y1, y2⟩ | ⟨y0, -⟩ | ⟨y0, -⟩
        · omega
        · exact (s_MM_varItem (d := d + 2) h z2 eN hT hZ y1 y2).mono go
        · omega
        · omega
      · have eo : Eo (wk M2 a) 6 (k + 1) e := by
          rcases hsh with ⟨y0, -⟩ | ⟨y0, -⟩ | ⟨y0, -⟩ | ⟨-, y⟩
          · omega
          · omega
          · omega
          · exact y
        rw [show mR M2 a 10 = g from hL.2.2.2.2.1, h17, show (k : Int) + 1 = ((k + 1 : Nat) : Int) by omega]
        refine ⟨(w2.gp hg).1, fun q4 => ?_, fun q4 => ?_⟩
        · refine (s_MM_rule1 (d := d + 3) (co := 0) (tr := 1) ⟨by decide, by decide⟩ (Or.inr rfl) hL (by omega) eo eN).mono (fun x5 M5 q5 => ?_)
          obtain ⟨ex, T5, t1, t2, Rl⟩ := q5
          subst ex
          have w5 := Rl.2.1.2.1.1.1
          refine ⟨i32s (by omega) (by omega), Rl.2.1.1, (w5.gp hg).1, fun M6 e6 => ?_⟩
          obtain ⟨I6, a6, o6, D6⟩ := h.tgt t1 Rl (by omega) e6
          refine nxt e g' M6 hg' eN hac' ⟨I6, ?_⟩
          by_cases z6 : mI M6 a 16 = 0
          · exact Or.inr ⟨z6, T5, K, R, W, C, Z, E, _, D6 (by rw [← a6]; exact z6), by omega, by omega⟩
          · exact Or.inl z6
        · refine (s_MM_place0 (d := d + 9) hL.1 hL.2.1 kN).mono (fun y M5 h5 => ?_)
          obtain ⟨e5, hy⟩ := h5
          subst e5
          have hy32 : i32 y := by rw [hy]; exact (hL.1 _ _).1
          exact ⟨hy32, hL.1, w2.1.1, (s_MM_stop ⟨by decide, by decide⟩ hy32 hL.1 w2).mono (fun M6 h6 => ⟨h6.1.1, nxt e g' M6 hg' eN hac' (st_it w2 (by decide) h6)⟩)⟩
      · rcases hsh with ⟨y0, -⟩ | ⟨y0, -⟩ | ⟨-, j, f', y1, y2, y3⟩ | ⟨y0, -⟩
        · omega
        · omega
        · exact (s_MM_commandItem (d := d) h z2 y1 y2 y3 eN hT hZ).mono go
        · omega
end ITE
