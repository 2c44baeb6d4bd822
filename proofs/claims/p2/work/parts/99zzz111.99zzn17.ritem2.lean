section
/-! The reference's const and formula, exactly: the item. -/
section RIY
variable {G : mG} {d a g R W C Z T N K : Nat} {M : mM} {E : Eg9} {tg : Int} {s s' : st9}
theorem Lc.fdx {k : Nat} {Q : Int → mM → Prop} (h : Lc M a g N T K) (hk : k < N) (hQ : ∀ z : Int, -1 ≤ z → z < K → fdx M a K k z → Q z M) : Ci G y_MM_find (d + 3) [vr a, vi k] M Q := by
  refine (x_MM_find (d := d) h.1 h.2.1 h.2.2.1 hk).mono (fun z M1 e1 => ?_)
  obtain ⟨e1, z1, z2⟩ := e1
  subst e1
  exact hQ z z1.1 z1.2 z2
/-- the stores of a new rule leave all lists and the reader's own numbers alone -/
theorem ri_same {T' : Nat} {v6 x3 : Int} {M3 M4 M5 M6 : mM} (R2 : Lc M3 a g N T' K) (hR : mI M3 g 6 ≤ R) (i6 : i32 v6) (i3 : i32 x3) (iT : i32 (T : Int)) (e4 : M4 = mUI M3 (g + 13) R v6) (e5 : M5 = mUI M4 (g + 14) R x3) (e6 : M6 = mUI M5 (g + 15) R (T : Int)) : (∀ q, q ∈ nums a → sameN M3 M6 q) ∧ mI M6 a = mI M3 a := by
  obtain ⟨L4, -, ⟨-, aI4⟩, m4, -, -⟩ := gsti R2 (i := 13) i6 (by omega) (by decide) (by decide) (fun _ => hR) e4
  obtain ⟨L5, -, ⟨-, aI5⟩, m5, -, -⟩ := gsti L4 (i := 14) i3 (by omega) (by decide) (by decide) (fun z => by omega) e5
  obtain ⟨L6, -, ⟨-, aI6⟩, m6, -, -⟩ := gsti L5 (i := 15) iT (by omega) (by decide) (by decide) (fun z => by omega) e6
  exact ⟨fun q hq => ((m4.lst hq (fun z => z)).trans (m5.lst hq (fun z => z))).trans (m6.lst hq (fun z => z)), by rw [aI6, aI5, aI4]⟩
/-- a formula -/
theorem x_ri_f {gm : gm9} {k e T' f : Nat} {x3 v6 : Int} {M6 : mM} (h : Df M a g N T K R W C Z E tg) (hR : R < 60) (hk : k + 1 < N) (t1 : T < T') (hT' : T' ≤ k + 20000) (hTe : T' ≤ e + 1) (hZe : Z ≤ e + 1) (i6 : i32 v6) (z0 : v6 ≠ 0) (S6 : riS M a g N T K R W C Z T' f 0 v6 x3 M6) (hS : RSq M a g K s.1) (hst : s.2.1 = (W, R, C, if tg = -1 then 0 else 1)) (h3 : lst3 M a M6) (h16 : mI M6 a 16 = 0) (hw : wk M a k = 6) (hv6 : v6 = if wk M a k = 6 then 1 else 0) (hnew : fdn M a K (k + 1) = -1) (eγ : E.2 = txg M a N s.1 gm) (he6 : Eo (wk M a) 6 (k + 3) e) (hnx : nxq (wk M a) 34 N (k + 1) = e) (tm : Td (wk M a) (nt M (a + 7)) (nrq M a (rvn M a K)) (so M6 g) (pm M6 g) (va M6 g) (fp M6 g) (np M6 g) 0 0 (k + 3) e T T') (es : s' = (s.1 ++ [(k + 1, 2, x3, (0, 0, 1))], (W, R + 1, C, if tg = -1 then 0 else 1), (0, 0))) : h_MM_ruleItem_187 G (d + 6) a k v6 R M6 (fun M' => mOk M' ∧ itX M a g N (e + 1) s' gm M') := by
  obtain ⟨L6, I6, gI6, ⟨z30, z32, z34⟩, G6, c13, c15, tn6, ty6⟩ := S6
  have D6 := h.2.2.2.2.ge G6
  have hg := h.1.2.2.2.2.2.1
  have RS6 : RSq M6 a g K s.1 := hS.ge h.1.2.2.1 h.2.1.1 h.2.1.2.1 h.2.2.2.2.1.1 G6 (I6.sx h.1.2.1.1.1 hg) (h3.q K)
  have hRr : rcn s.1 = R := by
    have := D6.2.2.2.2.2.2.2.1.1
    rw [eγ] at this
    exact this
  have hrl : ∀ r : Nat, r < R → (if r = R then T' else E.1 r) = E.1 r := fun r hr => if_neg (by omega)
  have g9 : RGq (gWs E.2 (E.2.2.2.2.2.2.1 ++ [(k + 1, 2, x3, (0, 0, 1))]) E.2.2.2.2.2.2.2) M6 g (R + 1) W C Z T' (fun r => if r = R then T' else E.1 r) tg := by
    refine (D6.tu (Nat.le_of_lt t1)).2.2.2.2.2.2.2.ru hrl (by show (2 : Nat) ≠ 3; decide) (fun u => absurd (show (2 : Nat) = 1 from u) (by decide)) (fun _ => ⟨fun u => z0 (c13.symm.trans u), T, nrq M a (rvn M a K), c15, ?_, ?_, ?_⟩)
    · rw [eγ]
      show Eo (wk M a) 6 (k + 1 + 2) (nxq (wk M a) 34 N (k + 1))
      rw [hnx]
      exact he6
    · rw [eγ]
      exact hS.nvo
    · rw [eγ]
      show Td (wk M a) (nt M (a + 7)) (nrq M a (rvn M a K)) (so M6 g) (pm M6 g) (va M6 g) (fp M6 g) (np M6 g) 0 0 (k + 1 + 2) (nxq (wk M a) 34 N (k + 1)) T (if R = R then T' else E.1 R)
      rw [hnx, if_pos rfl]
      exact tm
  refine x_ri187 (nwe := (k + 1, 2, x3, (0, 0, 1))) (gm := gm) (by show gWs E.2 _ _ = _; rw [eγ]; rfl) hRr h hR hk hT' hTe hZe i6 L6 I6 gI6 (E' := (fun r => if r = R then T' else E.1 r, gWs E.2 (E.2.2.2.2.2.2.1 ++ [(k + 1, 2, x3, (0, 0, 1))]) E.2.2.2.2.2.2.2)) z30 z32 z34 c13 (fun y16 => ?_) (Or.inr hw) hv6 RS6 h3 hnew hst (fun z => absurd h16 z) (fun _ => ⟨es, rfl, by rw [if_neg (by omega)], tn6.symm, fun z => absurd z (by simp)⟩)
  refine (D6.tu (Nat.le_of_lt t1)).ru hR hrl g9 (fun z => absurd (c13.symm.trans z) z0) (fun _ => ⟨T, f, c15, by show (if R = R then T' else E.1 R) ≤ T'; rw [if_pos rfl]; exact Nat.le_refl _, fun r' hr' z' => ?_, ?_⟩)
  · show (if r' = R then T' else E.1 r') ≤ T
    rw [if_neg (by omega)]
    obtain ⟨n, f', -, q2, -⟩ := D6.2.2.1 r' hr' z'
    exact q2
  · show Ty (nme True M6 g R W) (tn M6 g) M6 g f 0 T (if R = R then T' else E.1 R) (fun _ => tn M6 g R)
    rw [if_pos rfl, tn6]
    exact ty6 True (fun _ => trivial)
/-- a constant -/
theorem x_ri_c {gm : gm9} {k e T' f : Nat} {co x3 v6 : Int} {M6 : mM} (h : Df M a g N T K R W C Z E tg) (hR : R < 60) (hk : k + 1 < N) (t1 : T < T') (hT' : T' ≤ k + 20000) (hT16 : T' ≤ 16384) (hTe : T' ≤ e + 1) (hZe : Z ≤ e + 1) (i6 : i32 v6) (z0 : v6 = 0) (hco : co ≠ 0) (S6 : riS M a g N T K R W C Z T' f co v6 x3 M6) (hS : RSq M a g K s.1) (hst : s.2.1 = (W, R, C, if tg = -1 then 0 else 1)) (h3 : lst3 M a M6) (h16 : mI M6 a 16 = 0) (hw : wk M a k = 3) (hv6 : v6 = if wk M a k = 6 then 1 else 0) (hnew : fdn M a K (k + 1) = -1) (he6 : Eo (wk M a) 6 (k + 3) e) (hfl : (fl (wk M a) (Ern M a g K 1) (nt M (a + 7)) 0 (k + 3) e).1 = 0) (tm : Td (wk M a) (nt M (a + 7)) (nrq M a (rvn M a K)) (so M6 g) (pm M6 g) (va M6 g) (fp M6 g) (np M6 g) 0 0 (k + 3) e T T') (eγ : E.2 = txg M a N s.1 gm) (es1 : ∀ v : vrs, v = vlq (wk M a) (cv9 (wk M a) (nuq M a) (smx M a) s.1) (nt M (a + 7)) 0 0 (k + 3) e → v.1 ≠ 0 → s'.2.2 = (v.1, v.2.1)) (es2 : ∀ v : vrs, v = vlq (wk M a) (cv9 (wk M a) (nuq M a) (smx M a) s.1) (nt M (a + 7)) 0 0 (k + 3) e → v.1 = 0 → s' = (s.1 ++ [(k + 1, 1, x3, v)], (W, R + 1, C, if tg = -1 then 0 else 1), (0, 0))) : Cv G y_MM_workOut (d + 6) [vr a, vr (mR M6 a 10), vi T] M6 (fun M63 => mOk M63 ∧ (mK M63 a = 14 ∧ mK M63 (mR M63 a 10) = 16 ∧ mK M63 (mR M63 a 21) = 33 ∧ ((0 : Int) ≤ 0 ∧ 0 < (mN M63 (mR M63 a 21) : Int)) ∧ mK M63 (mR M63 (mR M63 a 10) 10) = 33 ∧ ((0 : Int) ≤ R ∧ (R : Int) < (mN M63 (mR M63 (mR M63 a 10) 10) : Int)) ∧ ∀ M72, M72 = mUL M63 (mR M63 (mR M63 a 10) 10) R (mL M63 (mR M63 a 21) 0) → mK M72 (mR M72 a 10) = 16 ∧ mK M72 (mR M72 a 22) = 33 ∧ ((0 : Int) ≤ 0 ∧ 0 < (mN M72 (mR M72 a 22) : Int)) ∧ mK M72 (mR M72 (mR M72 a 10) 11) = 33 ∧ ((0 : Int) ≤ R ∧ (R : Int) < (mN M72 (mR M72 (mR M72 a 10) 11) : Int)) ∧ ∀ M79, M79 = mUL M72 (mR M72 (mR M72 a 10) 11) R (mL M72 (mR M72 a 22) 0) → h_MM_ruleItem_187 G (d + 6) a k v6 R M79 (fun M' => mOk M' ∧ itX M a g N (e + 1) s' gm M'))) := by
  obtain ⟨L6, I6, gI6, ⟨z30, z32, z34⟩, G6, c13, c15, tn6, ty6⟩ := S6
  have hg := L6.2.2.2.2.2.1
  have hD := h.2.2.2.2
  have hBd := hD.1
  have D6 := hD.ge G6
  have w6 := L6.2.1.1.1
  have EV : Ev False M6 a g R W T' := ⟨L6.1, w6, hg, L6.2.2.2.1, ⟨hBd.1, hBd.2.1, hT16⟩, fun r hr => ⟨D6.2.1 r hr, fun z => z.elim⟩, fun z => z.elim⟩
  rw [show mR M6 a 10 = g from L6.2.2.2.2.1]
  have sx6 := I6.sx h.1.2.1.1.1 hg
  have RS6 : RSq M6 a g K s.1 := hS.ge h.1.2.2.1 h.2.1.1 h.2.1.2.1 hBd.1 G6 sx6 (h3.q K)
  have ern6 : Ern M6 a g K 1 = Ern M a g K 1 := by rw [RS6.en (Or.inr rfl), hS.en (Or.inr rfl), sx6.sm]
  have nrq6 : nrq M6 a (rvn M6 a K) = nrq M a (rvn M a K) := by
    funext y
    unfold nrq
    rw [sx6.1, sx6.nv, h3.rv sx6]
  have vv : vlM M6 a g (nrq M6 a (rvn M6 a K)) (k + 3, e) = vlq (wk M a) (cv9 (wk M a) (nuq M a) (smx M a) s.1) (nt M (a + 7)) 0 0 (k + 3) e := by
    show vlq (wk M6 a) (cvq M6 a g (nrq M6 a (rvn M6 a K))) (nt M6 (a + 7)) 0 0 (k + 3) e = _
    rw [sx6.1, sx6.2.1]
    refine vl_cg0 (E := Ern M a g K 1) (fun y y1 y2 => ?_) he6 hfl
    rw [RS6.cv (by rw [sx6.1, ern6]; exact y2), sx6.1, sx6.nu, sx6.sm]
  refine (x_MM_workOut (d := d + 2) (nv := nrq M6 a (rvn M6 a K)) (b := R) (F := False) (fun z => z) EV (Nat.le_refl _) (by rw [sx6.1]; exact he6) (by rw [sx6.1, sx6.2.1, nrq6]; exact tm) (ty6 False (fun z => absurd z hco)) (Nat.le_refl _)).mono (fun M7 t7 => ?_)
  clear ty6 EV
  obtain ⟨o7, ⟨E7, v7⟩, x7⟩ := t7
  rw [vv] at x7
  generalize ev : vlq (wk M a) (cv9 (wk M a) (nuq M a) (smx M a) s.1) (nt M (a + 7)) 0 0 (k + 3) e = v9 at x7
  obtain ⟨L7, gI7, G7, q30, q32, q34⟩ := E7.lc (R := R) (W := W) (C := C) (Z := Z) L6
  have w7 := L7.2.1.1.1
  have d7 : mR M7 a 10 = g := L7.2.2.2.2.1
  rw [d7, show mR M7 a 21 = a + 97 from (w7.1.2.2.2.2.1.2.2.2.2.2.2).1, show mR M7 g 10 = g + 16 from (w7.gp hg).2.1.2.2.2.2.2.2.2.2.2.1]
  have b16 := (w7.gp hg).2.2.2.1.2.2.2.1
  refine ⟨o7, w7.1.1, (w7.gp hg).1, (w7.1.2.2.2.2.2.2.2.1).1.1, by rw [(w7.1.2.2.2.2.2.2.2.1).1.2]; decide, b16.1, by rw [b16.2]; omega, fun M8 e8 => ?_⟩
  obtain ⟨L8, I8, i8, m8, f8⟩ := gstl L7 (L7.1 _ _).2 (Or.inl rfl) e8
  have G8 := ge_sl (R := R) (W := W) (C := C) (Z := Z) (T := T') hg m8 f8 i8 (Nat.le_refl R)
  have w8 := L8.2.1.1.1
  have d8 : mR M8 a 10 = g := L8.2.2.2.2.1
  rw [d8, show mR M8 a 22 = a + 98 from (w8.1.2.2.2.2.1.2.2.2.2.2.2).2.1, show mR M8 g 11 = g + 17 from (w8.gp hg).2.1.2.2.2.2.2.2.2.2.2.2]
  have b17 := (w8.gp hg).2.2.2.1.2.2.2.2
  refine ⟨(w8.gp hg).1, (w8.1.2.2.2.2.2.2.2.1).2.1.1, by rw [(w8.1.2.2.2.2.2.2.2.1).2.1.2]; decide, b17.1, by rw [b17.2]; omega, fun M9 e9 => ?_⟩
  obtain ⟨L9, I9, i9, m9, f9⟩ := gstl L8 (L8.1 _ _).2 (Or.inr rfl) e9
  have G9 := ge_sl (R := R) (W := W) (C := C) (Z := Z) (T := T') hg m9 f9 i9 (Nat.le_refl R)
  have h813 : mI M9 (g + 13) R = v6 := by rw [i9, i8, (E7.gs w6).1, c13]
  have t9 : tn M9 g R = x3 := by
    rw [← tn6]
    unfold tn
    rw [if_neg (show ¬ (100 : Int) ≤ (R : Int) by omega), if_neg (show ¬ (100 : Int) ≤ (R : Int) by omega), i9, i8, (E7.gs w6).2.1]
  have a9 : mL M9 (g + 16) R = mL M7 (a + 97) 0 := by rw [f9, if_neg (fun z => by omega), f8, if_pos ⟨rfl, rfl⟩]
  have b9 : mL M9 (g + 17) R = mL M8 (a + 98) 0 := by rw [f9, if_pos ⟨rfl, rfl⟩]
  have b8 : mL M8 (a + 98) 0 = mL M7 (a + 98) 0 := by rw [f8, if_neg (fun z => by omega)]
  have I69 := ((I6.trans (E7.it w6)).trans I8).trans I9
  have l39 : lst3 M a M9 := ((h3.trans (lst3.of E7.1 (fun i hi => by omega))).trans (lst3.of m8 (fun _ _ z => z))).trans (lst3.of m9 (fun _ _ z => z))
  have RS9 : RSq M9 a g K s.1 := hS.ge h.1.2.2.1 h.2.1.1 h.2.1.2.1 hBd.1 (((G6.trans (G7.down (Nat.le_refl _) (Nat.le_refl _) (Nat.le_refl _) (Nat.le_refl _) (Nat.le_of_lt t1))).trans (G8.down (Nat.le_refl _) (Nat.le_refl _) (Nat.le_refl _) (Nat.le_refl _) (Nat.le_of_lt t1))).trans (G9.down (Nat.le_refl _) (Nat.le_refl _) (Nat.le_refl _) (Nat.le_refl _) (Nat.le_of_lt t1))) (I69.sx h.1.2.1.1.1 hg) (l39.q K)
  have x79 : (v9.1 ≠ 0 ∧ mI M9 a 16 = v9.1 ∧ mI M9 a 17 = v9.2.1) ∨ (mI M9 a 16 = 0 ∧ v9 = vr9 x3 (mL M7 (a + 97) 0) (mL M7 (a + 98) 0)) := by
    rw [i9, i8]
    rcases x7 with q | q | q
    · exact absurd h16 q
    · exact Or.inl q
    · exact Or.inr q
  have hRr : rcn s.1 = R := by
    have := D6.2.2.2.2.2.2.2.1.1
    rw [eγ] at this
    exact this
  refine x_ri187 (nwe := (k + 1, 1, x3, v9)) (gm := gm) (by show gWs E.2 _ _ = _; rw [eγ]; rfl) hRr h hR hk hT' hTe hZe i6 L9 I69 (by rw [i9, i8, gI7, gI6]) (E' := (E.1, gWs E.2 (E.2.2.2.2.2.2.1 ++ [(k + 1, 1, x3, v9)]) E.2.2.2.2.2.2.2)) ?_ ?_ ?_ h813 (fun y16 => ?_) (Or.inl hw) hv6 RS9 l39 hnew hst (fun z => ?_) (fun z => ?_)
  rotate_left 4
  · rcases x79 with ⟨q1, q2, q3⟩ | ⟨q, -⟩
    · have := es1 v9 ev.symm q1
      rw [this]
      exact ⟨q1, q2, q3⟩
    · exact absurd q z
  · rcases x79 with ⟨q1, q2, -⟩ | ⟨-, q⟩
    · rw [z] at q2; exact absurd q2.symm q1
    · refine ⟨es2 v9 ev.symm (by rw [q]; rfl), rfl, by rw [if_pos hw], t9.symm, fun _ => ?_⟩
      show v9 = vr9 x3 _ _
      rw [q, a9, b9, b8]
  · rw [(m9.lst (n30 hg) (fun z => z)).1, (m8.lst (n30 hg) (fun z => z)).1, q30, z30]
  · rw [(m9.lst (n32 hg) (fun z => z)).1, (m8.lst (n32 hg) (fun z => z)).1, q32, z32]
  · rw [(m9.lst (n34 hg) (fun z => z)).1, (m8.lst (n34 hg) (fun z => z)).1, q34, z34]
  · rw [i9, i8] at y16
    rcases v7 with y | ⟨-, v7⟩
    · exact absurd y16 y
    have D9 := ((((D6.tu (Nat.le_of_lt t1)).ge G7).ge G8).ge G9)
    refine D9.ru hR (fun _ _ => rfl) (D9.2.2.2.2.2.2.2.ru (fun _ _ => rfl) (by show (1 : Nat) ≠ 3; decide) (fun _ => ⟨h813.trans z0, ?_⟩) (fun u => absurd (show (1 : Nat) = 2 from u) (by decide))) (fun _ => ?_) (fun z => absurd (h813.trans z0) z)
    · show v9 = vr9 (tn M9 g R) _ _
      rcases x79 with ⟨q1, q2, -⟩ | ⟨-, q⟩
      · rw [i9, i8, y16] at q2
        exact absurd q2.symm q1
      · rw [q, t9, a9, b9, b8]
    · rw [t9, a9, b9, b8]
      exact v7
theorem x_MM_ruleItem {gm : gm9} {k e : Nat} (eγ : E.2 = txg M a N s.1 gm) (hnx : nxq (wk M a) 34 N (k + 1) = e) (h : Df M a g N T K R W C Z E tg) (hS : RSq M a g K s.1) (hst : s.2.1 = (W, R, C, if tg = -1 then 0 else 1)) (h16 : mI M a 16 = 0) (hw : wk M a k = 3 ∨ wk M a k = 6) (he6 : Eo (wk M a) 6 (k + 3) e) (he : e < N) (hT : T ≤ k) (hZ : Z ≤ k) : Cv G y_MM_ruleItem (d + 7) [vr a, vi k, vi e] M (fun M' => mOk M' ∧ itX M a g N (e + 1) (itr (wk M a) (nt M (a + 7)) (nuq M a) (smx M a) k e s) gm M') := by
  generalize es : itr (wk M a) (nt M (a + 7)) (nuq M a) (smx M a) k e s = s'
  obtain ⟨hL, ⟨g6, g12, g18, g17⟩, ⟨y30, y32, y34⟩, hK, hD⟩ := id h
  obtain ⟨hO, hx, hnm, hd, h10, hg, hB, -⟩ := id hL
  have w := hx.1.1
  have hN := hx.1.2.2
  have hke := he6.pr.1
  have hBd := hD.1
  refine k_MM_ruleItem hO (i32s (by omega) (by omega)) (i32s (by omega) (by omega)) ⟨w.1.1, hL.wd (d := d + 5) (by omega) (fun x hx0 ix => ⟨ix, hO, fun v6 hv6 => ⟨w.1.1, ?_⟩⟩)⟩
  have c6 : v6 = 0 ∨ v6 = 1 := by split at hv6 <;> omega
  have hv6' : v6 = if wk M a k = 6 then 1 else 0 := by
    rw [hx0] at hv6
    rw [hv6]
  clear hv6
  rw [h10, g6]
  refine ⟨(w.gp hg).1, fun q => x_st_it (d := d + 5) (c := 5) (by decide) ⟨by decide, by decide⟩ hL (by omega) (by rw [← es]; exact itr_many (by rw [hst]; show R = 60; omega)), fun q => ?_⟩
  have n60 : s.2.1.2.1 ≠ 60 := by rw [hst]; show R ≠ 60; omega
  have hR : R < 60 := by omega
  rw [show (k : Int) + 1 = ((k + 1 : Nat) : Int) by omega, show (k : Int) + 3 = ((k + 3 : Nat) : Int) by omega]
  refine hL.fdx (d := d + 3) (by omega) (fun r r0 r1 rf => ⟨i32s (by omega) (by omega), hO, fun q2 => ⟨w.1.1, ?_⟩, fun q2 => ⟨w.1.1, x_st_it (d := d + 5) (c := 2) (by decide) ⟨by decide, by decide⟩ hL (by omega) (by rw [← es]; exact itr_known n60 ((hS.kw rf).2 (by omega)))⟩⟩)
  have hnone := (hS.kw rf).1 (by omega)
  have hnew : fdn M a K (k + 1) = -1 := by rw [← fdn_un rf]; omega
  rw [h10, g6]
  refine ⟨(w.gp hg).1, ?_⟩
  clear r0 r1 q2
  refine (x_MM_tree (d := d) hO hx hg h10 hd he6 he (by omega)).mono (fun r2 M2 t => ?_)
  obtain ⟨tt1, tt2, T9, tt3, tt4, tt5, tt6, tt7, tt8, tt9⟩ := t
  obtain ⟨er, T', t1, t2, L2, t3, e2, m2, s2⟩ := tr_lc hL (by omega) ⟨tt1, tt2, T9, tt3, tt4, tt5, tt6, tt7, tt9⟩
  have eT : T9 = T' := by
    have q1 := tt3 (g + 1) (by first | exact tLk1 g | exact gLk1 g | omega)
    have q2 := L2.2.2.2.1 (g + 1) (by first | exact tLk1 g | exact gLk1 g | omega)
    omega
  subst eT
  obtain ⟨k1, k2, k3, k4, k5, k6⟩ := tr_same (K := K) hg w tt1
  subst er
  have w2 := L2.2.1.1.1
  refine ⟨i32s (by omega) (by omega), L2.1, fun v33 hv33 => ⟨w2.1.1, (x_MM_look (d := d) (co := v33) (trlk (ur_n (M := M) (a := a) (g := g) (N := N) (K := K) (co := v33)) hg w L2 tt1 e2.2.2.2) (i32s (by split at hv33 <;> omega) (by split at hv33 <;> omega)) (nm := nmw (wk M a) N) (fun v hv => ⟨⟨hv.1, hv.2.1⟩, by rw [k1]; exact hv.2.2⟩) (by rw [k1]; exact he6) (tm_self k1 k2 k3 tt8.1) L2 t3 (Nat.le_refl _)).mono (fun x3 M3 q0 => ?_)⟩⟩
  obtain ⟨q3, qx⟩ := q0
  have Rl := tl_rl hL L2 e2 m2 s2 q3
  rw [k1, k2, show mI M2 a = mI M a from e2.1] at qx
  have w2' := w2
  have hv33' : v33 = if wk M a k = 3 then 1 else 0 := by
    rw [hv6'] at hv33
    rw [hv33]
    rcases hw with q | q
    · rw [if_pos q]
      simp [q]
    · rw [if_neg (by omega)]
      simp [q]
  have c33 : v33 = 0 ∨ v33 = 1 := by rw [hv33']; split <;> simp
  have enE := hS.en (co := v33) c33
  rw [enE, hv33'] at qx
  have tmr : mI M3 a 16 = 0 → Tmr M M3 a g (rvn M a K) (k + 3) e T T9 := fun z => by
    rcases qx with q | ⟨q, -⟩ | ⟨-, -, -, qv⟩
    · exact absurd h16 q
    · exact absurd z q
    · exact tm_rs hg w tt1 w2' q3.1 he6 tt8.1 qv
  have l33 : lst3 M a M3 := lst3.of Rl.1 (fun i hi z => by
    have z' : ((a + i = g + 1 ∨ a + i = g + 3 ∨ a + i = g + 5 ∨ a + i = g + 7 ∨ a + i = g + 9 ∨ a + i = g + 11) ∨ a + i = a + 91) ∨ (a + i = a + 93 ∨ a + i = a + 95 ∨ a + i = g + 7) := z
    first | exact l33z hg hi z' | omega)
  have hpm : ∀ n, n < T → pm M3 g n = pm M g n := fun n hn => (q3.1.pm w2' n).trans (tt8.2 n hn)
  clear q3 s2 m2 e2 t3 tt8 tt9 tt7 tt6 tt3 k4
  have I3 := (rlR.ge (R := R) (W := W) (C := C) (Z := Z) hL Rl).1
  have R2 := Rl.2.1
  have R5 := Rl.2.2.2.2.1
  have w3 := R2.2.1.1.1
  have hb1 : T9 ≤ k + 20000 := by omega
  have hb2 : T9 ≤ 16384 := by omega
  have hb3 : T9 ≤ e + 1 := by omega
  have hb4 : Z ≤ e + 1 := by omega
  have hk1 : k + 1 < N := by omega
  have i6 : i32 v6 := i32s (by omega) (by omega)
  have ix3 : i32 x3 := i32s (by omega) (by omega)
  have R60 : ((0 : Int) ≤ R ∧ (R : Int) < ((60 : Nat) : Int)) := by omega
  clear hB hBd hke hN t2 hd hnm y30 y32 y34 hK
  refine ⟨ix3, R2.1, w3.1.1, fun z16 => ?_, fun z16 => ⟨R2.1, I3, Or.inl ?_⟩⟩
  rotate_left
  · rcases qx with q | ⟨q, qf⟩ | ⟨q, -⟩
    · exact absurd h16 q
    · have fz : (fl (wk M a) (E9 (smx M a) s.1 (if wk M a k = 3 then 1 else 0)) (nt M (a + 7)) 0 (k + 3) e).1 ≠ 0 := by rw [← qf.1]; exact q
      rw [← es, itr_fl n60 hnone fz]
      exact ⟨fz, qf⟩
    · exact absurd q z16
  obtain ⟨hfl, hx3⟩ : (fl (wk M a) (E9 (smx M a) s.1 (if wk M a k = 3 then 1 else 0)) (nt M (a + 7)) 0 (k + 3) e).1 = 0 ∧ x3 = kdq (wk M a) (E9 (smx M a) s.1 (if wk M a k = 3 then 1 else 0)) 0 (k + 3) e := by
    rcases qx with q | ⟨q, -⟩ | ⟨-, q1, q2, -⟩
    · exact absurd h16 q
    · exact absurd z16 q
    · exact ⟨q1, q2⟩
  have tmr := tmr z16
  have g63 : mI M3 g 6 ≤ R := by rw [Rl.2.2.2.1, g6]; omega
  rw [show mR M3 a 10 = g from R2.2.2.2.2.1, show mR M3 g 7 = g + 13 from (w3.gp hg).2.1.2.2.2.2.2.2.1, Int.toNat_natCast]
  have b13 := (w3.gp hg).2.2.2.1.1
  refine ⟨(w3.gp hg).1, b13.1, by rw [b13.2]; exact R60, fun M4 e4 => ?_⟩
  have La := fun M5 M6 e5 e6 => ri_a (M5 := M5) (M6 := M6) h hR t1 Rl z16 hpm c6 e4 e5 e6
  have L4 := (La _ _ rfl rfl).2.1
  have w4 := L4.2.1.1.1
  rw [show mR M4 a 10 = g from L4.2.2.2.2.1, show mR M4 g 8 = g + 14 from (w4.gp hg).2.1.2.2.2.2.2.2.2.1]
  have b14 := (w4.gp hg).2.2.2.1.2.1
  refine ⟨(w4.gp hg).1, b14.1, by rw [b14.2]; exact R60, R5, fun M5 e5 => ?_⟩
  have L5 := (La M5 _ e5 rfl).2.2
  have w5 := L5.2.1.1.1
  rw [show mR M5 a 10 = g from L5.2.2.2.2.1, show mR M5 g 9 = g + 15 from (w5.gp hg).2.1.2.2.2.2.2.2.2.2.1]
  have b15 := (w5.gp hg).2.2.2.1.2.2.1
  refine ⟨(w5.gp hg).1, b15.1, by rw [b15.2]; exact R60, fun M6 e6 => ?_⟩
  obtain ⟨f, S6⟩ := (La M5 M6 e5 e6).1
  obtain ⟨sm6, aI6⟩ := ri_same R2 g63 i6 ix3 (i32s (by omega) (by omega)) e4 e5 e6
  have z16' : mI M6 a 16 = 0 := by rw [aI6]; exact z16
  have l36 : lst3 M a M6 := l33.trans ⟨sm6 _ n85, sm6 _ n87, sm6 _ n89⟩
  have tm6 : Td (wk M a) (nt M (a + 7)) (nrq M a (rvn M a K)) (so M6 g) (pm M6 g) (va M6 g) (fp M6 g) (np M6 g) 0 0 (k + 3) e T T9 := tmr.cg (Or.inl ⟨rfl, he6⟩) (fun y _ _ => ⟨(sm6 _ (tL_in (q := g + 1) hg (tLk1 g))).2.1 y, (sm6 _ (tL_in (q := g + 3) hg (tLk3 g))).2.1 y, (sm6 _ (tL_in (q := g + 7) hg (tLk7 g))).2.1 y, (sm6 _ (tL_in (q := g + 9) hg (tLk9 g))).2.1 y⟩) (fun y _ _ => (sm6 _ (tL_in (q := g + 11) hg (tLk11 g))).2.1 y) (fun u => absurd u (by decide))
  refine ⟨fun z0 => ?_, fun z0 => ?_⟩
  · have w3k : wk M a k = 3 := by
      rcases hw with q | q
      · exact q
      · rw [if_pos q] at hv6'; omega
    rw [w3k, if_pos rfl] at hfl hx3
    refine x_ri_c h hR hk1 t1 hb1 hb2 hb3 hb4 i6 z0 (by rw [hv33', if_pos w3k]; decide) S6 hS hst l36 z16' w3k hv6' hnew he6 (by rw [hS.en (Or.inr rfl)]; exact hfl) tm6 eγ (fun v ev v1 => ?_) (fun v ev v1 => ?_)
    · rw [← es, ev]
      exact itr_vl n60 hnone (by rw [w3k, if_pos rfl]; exact hfl) w3k (by rw [← ev]; exact v1)
    · rw [← es, itr_ok (v := v) n60 hnone (by rw [w3k, if_pos rfl]; exact hfl) (by rw [w3k, if_pos rfl]; exact ev) v1, hst, w3k, if_pos rfl, if_pos rfl, ← hx3]
  · have w6k : wk M a k = 6 := by
      rcases hw with q | q
      · rw [if_neg (by omega)] at hv6'; exact absurd hv6' z0
      · exact q
    have v0 : v33 = 0 := by rw [hv33', if_neg (by omega)]
    rw [v0] at S6
    refine x_ri_f h hR hk1 t1 hb1 hb3 hb4 i6 z0 S6 hS hst l36 z16' w6k hv6' hnew eγ he6 hnx tm6 ?_
    have n3 : ¬ wk M a k = 3 := by omega
    rw [← es, itr_ok (v := (0, 0, 1)) n60 hnone hfl (by rw [if_neg n3]) rfl, hst, ← hx3, if_neg n3]
end RIY
end
section
/-! The reference's vars, exactly: whole numbers, first values. -/
section VIX
variable {G : mG} {d a g R W C Z T N K : Nat} {M M2 M3 : mM} {E : Eg9} {nv : Nat → Int}
/-- a rule made of constants alone, and which words it stands for -/
def Ctx (M : mM) (a g R W T : Nat) (nv : Nat → Int) (i j n : Nat) (t : Int) : Prop := Eo (wk M a) 6 i j ∧ ∃ f e : Nat, Ty (nme False M g R W) (tn M g) M g f 0 n e (fun _ => t) ∧ e ≤ T ∧ Td (wk M a) (nt M (a + 7)) nv (so M g) (pm M g) (va M g) (fp M g) (np M g) 0 0 i j n e
theorem Ctx.gn {i j n : Nat} {t : Int} (h : Ctx M a g R W T nv i j n t) (k : Gn M g R W T M2) (hR : R ≤ 60) (sx : SXq M a M2) (hp : ∀ n, n < T → pm M2 g n = pm M g n) : Ctx M2 a g R W T nv i j n t := by
  obtain ⟨eo, f, e, h1, h2, h3⟩ := h
  refine ⟨by rw [sx.1]; exact eo, f, e, (h1.mono (nm' := nme False M2 g R W) (w' := tn M2 g) (fun v hv => ⟨k.nm (Nat.le_refl _) hv, k.tnm hR hv.wk (Nat.le_refl _)⟩)).fr (fun n _ n2 => ⟨(k.1 n (by omega)).1, (k.1 n (by omega)).2.1, (k.1 n (by omega)).2.2.1⟩) (fun n _ n2 => (k.1 n (by omega)).2.2.2.1) (fun z => absurd rfl z), h2, ?_⟩
  rw [sx.1, sx.2.1]
  exact h3.cg (Or.inl ⟨rfl, eo⟩) (fun x _ x2 => ⟨(k.1 x (by omega)).1, hp x (by omega), (k.1 x (by omega)).2.1, (k.1 x (by omega)).2.2.1⟩) (fun x _ x2 => (k.1 x (by omega)).2.2.2.1) (fun u => absurd u (by decide))
theorem Ctx.up {i j n T' : Nat} {t : Int} (h : Ctx M a g R W T nv i j n t) (hT : T ≤ T') : Ctx M a g R W T' nv i j n t := by
  obtain ⟨eo, f, e, h1, h2, h3⟩ := h
  exact ⟨eo, f, e, h1, by omega, h3⟩
/-- what a whole number comes to -/
def whX (M : mM) (a g : Nat) (nv : Nat → Int) (i j wd : Nat) (x : Int) (M' : mM) : Prop := ((wh9 (vlM M a g nv (i, j)) (nt M (a + 7) wd)).1 ≠ 0 ∧ fpw M' a (wh9 (vlM M a g nv (i, j)) (nt M (a + 7) wd))) ∨ ((wh9 (vlM M a g nv (i, j)) (nt M (a + 7) wd)).1 = 0 ∧ mI M' a 16 = 0 ∧ x = (vlM M a g nv (i, j)).2.1)
theorem x_MM_wholeOf {n wd i j : Nat} (hL : Lc M a g N T K) (h : Ev False M a g R W T) (ht : Ctx M a g R W T nv i j n 0) (hwd : wd < N) : Ci G y_MM_wholeOf (d + 5) [vr a, vi n, vi wd] M (fun x M' => i32 x ∧ mOk M' ∧ EO False M a g R W T M' ∧ (mI M' a 16 = 0 → mI M a 16 = 0 ∧ -1000000000 < x ∧ x < 1000000000) ∧ (mI M a 16 = 0 → whX M a g nv i j wd x M') ∧ (mI M a 16 ≠ 0 → M' = M)) := by
  obtain ⟨eo, f, e, ht, he, tm⟩ := ht
  have w := h.2.1
  have hN := hL.2.1.1.2.2
  have hlt := ht.tn.lt
  have hB := h.2.2.2.2.1
  refine k_MM_wholeOf2 h.1 (i32s (by omega) (by omega)) (i32s (by omega) (by omega)) ⟨w.1.1, fun z16 => ?_, fun z16 => ⟨⟨by omega, by omega⟩, h.1, EO.refl h, fun q => absurd q z16, fun q => absurd q z16, fun _ => rfl⟩⟩
  rw [show mR M a 10 = g from hL.2.2.2.2.1]
  refine (x_MM_workOut (d := d) (b := R) (F := False) (fun z => z) h (Nat.le_refl _) eo tm ht he).mono (fun M4 t4 => ?_)
  obtain ⟨o4, ⟨E4, v4⟩, x4⟩ := t4
  generalize ev : vlM M a g nv (i, j) = v9 at x4
  have cz := (cmpz (mL M4 (a + 98) 0) 1).2.2.2.1
  have w4 := E4.1.2.1
  have L4 := (E4.lc (R := R) (W := W) (C := 0) (Z := 0) hL).1
  rw [show mR M4 a 22 = a + 98 from (w4.1.2.2.2.2.1.2.2.2.2.2.2).2.1, show mR M4 a 21 = a + 97 from (w4.1.2.2.2.2.1.2.2.2.2.2.2).1]
  refine ⟨o4, w4.1.1, fun _ => ⟨(w4.1.2.2.2.2.2.2.2.1).2.1.1, by rw [(w4.1.2.2.2.2.2.2.2.1).2.1.2]; omega⟩, fun q => ⟨(w4.1.2.2.2.2.2.2.2.1).1.1, by rw [(w4.1.2.2.2.2.2.2.2.1).1.2]; omega, i32_w32, o4, E4, fun y16 => ⟨z16, ?_⟩, fun _ => ?_, fun q => absurd z16 q⟩, fun q => ?_⟩
  · rcases v4 with y | ⟨-, y⟩
    · exact absurd y16 y
    · unfold vok at y
      rw [w32_id ⟨by omega, by omega⟩]
      omega
  · unfold whX wh9
    rw [ev]
    rcases x4 with y | y | ⟨y16, y⟩
    · exact absurd z16 y
    · rw [if_pos y.1]
      exact Or.inl ⟨y.1, y.2.1, y.2.2⟩
    · have v0 : vok 0 (mL M4 (a + 97) 0) (mL M4 (a + 98) 0) := by
        rcases v4 with y | ⟨-, y⟩
        · exact absurd y16 y
        · exact y
      unfold vok at v0
      have b1 : mL M4 (a + 98) 0 = 1 := by
        rcases q with q | q
        · exact absurd y16 q
        · exact cz.mp q
      rw [y]
      unfold vr9
      rw [if_neg (by simp), if_neg (by rw [b1]; simp)]
      refine Or.inr ⟨rfl, y16, ?_⟩
      rw [w32_id ⟨by omega, by omega⟩]
  · refine (s_MM_place0 (d := d + 3) o4 L4.2.1 hwd).mono (fun y M5 h5 => ?_)
    obtain ⟨e5, hy⟩ := h5
    subst e5
    have hy32 : i32 y := by rw [hy]; exact (o4 _ _).1
    refine ⟨hy32, o4, w4.1.1, (s_MM_stop ⟨by omega, by omega⟩ hy32 o4 w4).mono (fun M6 h6 => ?_)⟩
    obtain ⟨m6, f1, f2, f3⟩ := h6
    have w6 := m6.2.1
    rw [show mR M6 a 21 = a + 97 from (w6.1.2.2.2.2.1.2.2.2.2.2.2).1]
    refine ⟨m6.1, w6.1.1, (w6.1.2.2.2.2.2.2.2.1).1.1, by rw [(w6.1.2.2.2.2.2.2.2.1).1.2]; omega, i32_w32, m6.1, E4.step m6 (fun _ z => z.elim) (fun x z => Or.inl z) (fun i i1 i2 _ => f3 i i1 i2), fun q => by rw [f1] at q; exact absurd q (by decide), fun _ => ?_, fun q => absurd z16 q⟩
    have y16 : mI M5 a 16 = 0 := Classical.byContradiction (fun z => q (Or.inl z))
    have b1 : mL M5 (a + 98) 0 ≠ 1 := fun z => q (Or.inr (cz.mpr z))
    unfold whX wh9
    rw [ev]
    rcases x4 with y | y | ⟨-, y⟩
    · exact absurd z16 y
    · rw [y.2.1] at y16; exact absurd y16 y.1
    · rw [y]
      unfold vr9
      rw [if_neg (by simp), if_pos (by show (if (0 : Int) = 1 then (1 : Int) else mL M5 (a + 98) 0) ≠ 1; rw [if_neg (by decide)]; exact b1)]
      have p7 : nt M5 (a + 7) wd = nt M (a + 7) wd := (E4.1.lst n7 (by omega)).2.1 wd
      exact Or.inl ⟨by simp, f1, by rw [f2, hy, p7]⟩
end VIX
end
section
/-! The reference's vars, exactly: first values, and what is kept inside a var. -/
section VXA
variable {G : mG} {d a g R W C Z T T2 T3 N K : Nat} {M M2 M3 : mM} {E : Eg9} {tg bl : Int} {s s' : st9} {nv : Nat → Int}
/-- the fault of a first value -/
def bef (bl lo hi p : Int) (x : vrs) : Int × Int := if bl ≠ 0 then wh9 x p else fst9 (wh9 x p) (if lo ≤ x.2.1 ∧ x.2.1 ≤ hi then (0, 0) else (9, p))
/-- a first value is told, or its fault -/
def beX (M : mM) (a g R W T v : Nat) (V : vrs) (b : Int × Int) (M' : mM) : Prop := ∃ (M1 : mM) (x : Int), EO False M a g R W T M1 ∧ i32 x ∧ M' = mUI M1 (g + 21) v x ∧ (mI M1 a 16 = 0 → (mI M (g + 18) v = 0 → mI M (g + 19) v ≤ x ∧ x ≤ mI M (g + 20) v) ∧ (mI M (g + 18) v ≠ 0 → 0 ≤ x ∧ x ≤ 1)) ∧ ((b.1 ≠ 0 ∧ fpw M1 a b) ∨ (b.1 = 0 ∧ mI M1 a 16 = 0 ∧ x = V.2.1))
theorem x_MM_begins {n wd v i j : Nat} {t : Int} (hL : Lc M a g N T K) (h : Ev False M a g R W T) (h16 : mI M a 16 = 0) (ht : Ctx M a g R W T nv i j n t) (hv : v < 12) (ht1 : mI M (g + 18) v ≠ 0 → t = 1) (ht0 : mI M (g + 18) v = 0 → t = 0) (hwd : wd < N) : Cv G y_MM_begins (d + 6) [vr a, vi v, vi n, vi wd] M (fun M' => mOk M' ∧ beX M a g R W T v (vlM M a g nv (i, j)) (bef (mI M (g + 18) v) (mI M (g + 19) v) (mI M (g + 20) v) (nt M (a + 7) wd) (vlM M a g nv (i, j))) M') := by
  obtain ⟨eo, f, e, hty, he, tm⟩ := id ht
  have w := h.2.1
  have hg := h.2.2.1
  have hN := hL.2.1.1.2.2
  have hlt := hty.tn.lt
  have hB := h.2.2.2.2.1
  have hin : ∀ q, q = a + 99 → q ∈ nums a := fun q hq => by rw [hq]; exact n99
  have keep : ∀ (M1 : mM) (i : Nat), EO False M a g R W T M1 → i ≤ 29 → frO (13 + i) → frO (49 + i) → mI M1 (g + i) = mI M (g + i) := fun M1 i k i1 f1 f2 => (k.1.cellL w hin (goffx hg f1 f2) (fun z => by
    have : g + i = a ∨ g + i = a + 97 ∨ g + i = a + 98 ∨ g + i = a + 102 ∨ g + i = a + 103 ∨ g + i = a + 104 := z
    omega)).1
  refine k_MM_begins2 h.1 (i32s (by omega) (by omega)) (i32s (by omega) (by omega)) (i32s (by omega) (by omega)) ?_
  have b13 := (w.gp hg).2.2.2.2.1.1
  rw [show mR M a 10 = g from hL.2.2.2.2.1, show mR M g 13 = g + 18 from (w.gp hg).2.2.1.1, Int.toNat_natCast]
  refine ⟨w.1.1, (w.gp hg).1, b13.1, by rw [b13.2]; omega, fun z0 => ?_, fun z0 => ?_⟩
  · have t0 := ht0 z0
    subst t0
    refine (x_MM_wholeOf (d := d) hL h ht hwd).mono (fun x M7 t7 => ?_)
    obtain ⟨ix, o7, E7, v7, x7, -⟩ := t7
    have x7 := x7 h16
    unfold whX at x7
    generalize vlM M a g nv (i, j) = v9 at x7 ⊢
    have bz : bef (mI M (g + 18) v) (mI M (g + 19) v) (mI M (g + 20) v) (nt M (a + 7) wd) v9 = fst9 (wh9 v9 (nt M (a + 7) wd)) (if mI M (g + 19) v ≤ v9.2.1 ∧ v9.2.1 ≤ mI M (g + 20) v then (0, 0) else (9, nt M (a + 7) wd)) := if_neg (fun z => z z0)
    rw [bz]
    have w7 := E7.1.2.1
    have L7 := (E7.lc (R := R) (W := W) (C := 0) (Z := 0) hL).1
    have b14 := (w7.gp hg).2.2.2.2.1.2.1
    have b15 := (w7.gp hg).2.2.2.2.1.2.2.1
    have b16 := (w7.gp hg).2.2.2.2.1.2.2.2
    rw [show mR M7 a 10 = g from L7.2.2.2.2.1, show mR M7 g 14 = g + 19 from (w7.gp hg).2.2.1.2.1, show mR M7 g 15 = g + 20 from (w7.gp hg).2.2.1.2.2.1, show mR M7 g 16 = g + 21 from (w7.gp hg).2.2.1.2.2.2.1, keep M7 19 E7 (by omega) (by decide) (by decide), keep M7 20 E7 (by omega) (by decide) (by decide)]
    refine ⟨ix, o7, w7.1.1, fun _ => ⟨(w7.gp hg).1, b14.1, by rw [b14.2]; omega, fun _ => ⟨b15.1, by rw [b15.2]; omega⟩⟩, fun q => ?_, fun q => ⟨(w7.gp hg).1, b16.1, by rw [b16.2]; omega, fun M8 e8 => ⟨by rw [e8]; exact mOk_UI o7 ix, M7, x, E7, ix, e8, fun y16 => ⟨fun _ => by omega, fun y => absurd z0 y⟩, by
      rcases x7 with ⟨y1, y2⟩ | ⟨y1, y2, y3⟩
      · rw [fst9_l y1]; exact Or.inl ⟨y1, y2⟩
      · rw [fst9_r y1, if_pos ⟨by omega, by omega⟩]; exact Or.inr ⟨rfl, y2, y3⟩⟩⟩⟩
    refine (s_MM_place0 (d := d + 4) o7 L7.2.1 hwd).mono (fun y M8 h8 => ?_)
    obtain ⟨e8, hy⟩ := h8
    subst e8
    have hy32 : i32 y := by rw [hy]; exact (o7 _ _).1
    refine ⟨hy32, o7, w7.1.1, (s_MM_stop ⟨by omega, by omega⟩ hy32 o7 w7).mono (fun M9 h9 => ?_)⟩
    obtain ⟨m9, f1, f2, f3⟩ := h9
    have w9 := m9.2.1
    have E9 := E7.step m9 (fun _ z => z.elim) (fun x z => Or.inl z) (fun i i1 i2 _ => f3 i i1 i2)
    have L9 := (E9.lc (R := R) (W := W) (C := 0) (Z := 0) hL).1
    have c16 := (w9.gp hg).2.2.2.2.1.2.2.2
    rw [show mR M9 a 10 = g from L9.2.2.2.2.1, show mR M9 g 16 = g + 21 from (w9.gp hg).2.2.1.2.2.2.1]
    exact ⟨m9.1, w9.1.1, (w9.gp hg).1, c16.1, by rw [c16.2]; omega, fun M10 e10 => ⟨by rw [e10]; exact mOk_UI m9.1 ix, M9, x, E9, ix, e10, fun y16 => by rw [f1] at y16; exact absurd y16 (by decide), by
      rcases x7 with ⟨y1, y2⟩ | ⟨y1, y2, y3⟩
      · exact absurd (y2.1.symm.trans q.1) y1
      · have p7 : nt M8 (a + 7) wd = nt M (a + 7) wd := (E7.1.lst n7 (by omega)).2.1 wd
        rw [fst9_r y1, if_neg (fun z => by omega)]
        exact Or.inl ⟨by simp, f1, by rw [f2, hy, p7]⟩⟩⟩
  · have t1 := ht1 z0
    subst t1
    refine (x_MM_workOut (d := d + 1) (b := R) (F := False) (fun z => z) h (Nat.le_refl _) eo tm hty he).mono (fun M4 t4 => ?_)
    obtain ⟨o4, ⟨E4, v4⟩, x4⟩ := t4
    have bz : ∀ x : vrs, bef (mI M (g + 18) v) (mI M (g + 19) v) (mI M (g + 20) v) (nt M (a + 7) wd) x = wh9 x (nt M (a + 7) wd) := fun x => if_pos z0
    rw [bz]
    generalize vlM M a g nv (i, j) = v9 at x4 ⊢
    have w4 := E4.1.2.1
    have L4 := (E4.lc (R := R) (W := W) (C := 0) (Z := 0) hL).1
    have c16 := (w4.gp hg).2.2.2.2.1.2.2.2
    rw [show mR M4 a 10 = g from L4.2.2.2.2.1, show mR M4 g 16 = g + 21 from (w4.gp hg).2.2.1.2.2.2.1, show mR M4 a 21 = a + 97 from (w4.1.2.2.2.2.1.2.2.2.2.2.2).1]
    refine ⟨o4, w4.1.1, (w4.gp hg).1, (w4.1.2.2.2.2.2.2.2.1).1.1, by rw [(w4.1.2.2.2.2.2.2.2.1).1.2]; omega, c16.1, by rw [c16.2]; omega, fun M5 e5 => ⟨by rw [e5]; exact mOk_UI o4 i32_w32, M4, _, E4, i32_w32, e5, fun y16 => ⟨fun y => absurd y z0, fun _ => ?_⟩, ?_⟩⟩
    · rcases v4 with y | ⟨-, y⟩
      · exact absurd y16 y
      · unfold vok at y
        rw [w32_id ⟨by omega, by omega⟩]
        omega
    · unfold wh9
      rcases x4 with y | y | ⟨y16, y⟩
      · exact absurd h16 y
      · rw [if_pos y.1]
        exact Or.inl ⟨y.1, y.2.1, y.2.2⟩
      · have vk : vok 1 (mL M4 (a + 97) 0) (mL M4 (a + 98) 0) := by
          rcases v4 with q | ⟨-, q⟩
          · exact absurd y16 q
          · exact q
        unfold vok at vk
        rw [y]
        refine Or.inr ⟨rfl, y16, ?_⟩
        rw [w32_id ⟨by omega, by omega⟩]
        rfl
/-- the rule's root, and its tree -/
theorem rl_ctx {i j : Nat} {t : Int} {rv : Nat → Int} (hL : Lc M2 a g N T2 K) (g6 : mI M2 g 6 = R) (hR : R ≤ 60) (eo : Eo (wk M2 a) 6 i j) (h : rlR 1 M2 a g N T2 K T3 t M3) (z : mI M3 a 16 = 0) (hp : ∀ n, n < T2 → pm M3 g n = pm M2 g n) (tm : Tmr M2 M3 a g rv i j T2 T3) : Ctx M3 a g R W T3 (nrq M2 a rv) i j T2 t := by
  have G3 := (rlR.ge (R := R) (W := W) (C := 0) (Z := 0) hL h).2.1 z hp
  have sx := (rlR.ge (R := R) (W := W) (C := 0) (Z := 0) hL h).1.sx hL.2.1.1.1 hL.2.2.2.2.2.1
  refine ⟨by rw [sx.1]; exact eo, ?_⟩
  rcases h.2.2.2.2.2 with y | ⟨-, ⟨f, ty⟩, -⟩
  · exact absurd z y
  · refine ⟨f, T3, ty.mono (fun v hv => ?_), Nat.le_refl _, by rw [sx.1, sx.2.1]; exact tm⟩
    unfold nmr at hv
    rw [g6] at hv
    rcases hv with ⟨h1, h2, h3, h4⟩ | ⟨h1, -⟩
    · have gt := G3.1.tr (r := v.toNat) hR (by omega)
      rw [show ((v.toNat : Nat) : Int) = v by omega] at gt
      refine ⟨Or.inl ⟨h1, h2, Or.inr ?_⟩, gt⟩
      rw [(G3.1.2.1 v.toNat (by omega)).1]
      exact h4 (by decide)
    · exact absurd h1 (by decide)
/-- the names inside a var -/
theorem vI.sx (w : Wd M a) (v : vI M a g N T K R W C Z bl T2 M2) : SXq M a M2 := v.2.1.sx w v.1.2.2.2.2.2.1
theorem vI.rs (h : Df M a g N T K R W C Z E tg) (hS : RSq M a g K s.1) (v : vI M a g N T K R W C Z bl T2 M2) (h3 : lst3 M a M2) : RSq M2 a g K s.1 := hS.ge h.1.2.2.1 h.2.1.1 h.2.1.2.1 h.2.2.2.2.1.1 v.2.2.2.2.2.2 (v.sx h.1.2.1.1.1) (h3.q K)
theorem vI.ern (h : Df M a g N T K R W C Z E tg) (hS : RSq M a g K s.1) (v : vI M a g N T K R W C Z bl T2 M2) (h3 : lst3 M a M2) : Ern M2 a g K 1 = Ern M a g K 1 := by
  rw [(vI.rs h hS v h3).en (Or.inr rfl), hS.en (Or.inr rfl), (v.sx h.1.2.1.1.1).sm]
theorem vI.nr (h : Df M a g N T K R W C Z E tg) (v : vI M a g N T K R W C Z bl T2 M2) (h3 : lst3 M a M2) : nrq M2 a (rvn M2 a K) = nrq M a (rvn M a K) := by
  have sx := v.sx h.1.2.1.1.1
  funext y
  unfold nrq
  rw [sx.1, sx.nv, h3.rv sx]
/-- a rule of consts is worth what the text says -/
theorem vI.vl {i j : Nat} (h : Df M a g N T K R W C Z E tg) (hS : RSq M a g K s.1) (v : vI M a g N T K R W C Z bl T2 M2) (h3 : lst3 M a M2) (he6 : Eo (wk M a) 6 i j) (hfl : (fl (wk M a) (E9 (smx M a) s.1 1) (nt M (a + 7)) 0 i j).1 = 0) : vlM M2 a g (nrq M a (rvn M a K)) (i, j) = vlq (wk M a) (cv9 (wk M a) (nuq M a) (smx M a) s.1) (nt M (a + 7)) 0 0 i j := by
  have sx := v.sx h.1.2.1.1.1
  have RS := vI.rs h hS v h3
  have en := vI.ern h hS v h3
  rw [← vI.nr h v h3]
  show vlq (wk M2 a) (cvq M2 a g (nrq M2 a (rvn M2 a K))) (nt M2 (a + 7)) 0 0 i j = _
  rw [sx.1, sx.2.1]
  refine vl_cg0 (E := Ern M a g K 1) (fun y y1 y2 => ?_) he6 (by rw [hS.en (Or.inr rfl)]; exact hfl)
  rw [RS.cv (by rw [sx.1, en]; exact y2), sx.1, sx.nu, sx.sm]
/-- what the lists of names do -/
theorem lst3.rl {co t : Int} (hg : g = a + 13 ∨ g = a + 49) (q : rlR co M2 a g N T2 K T3 t M3) : lst3 M2 a M3 := lst3.of q.1 (fun i hi z => by
    have z' : ((a + i = g + 1 ∨ a + i = g + 3 ∨ a + i = g + 5 ∨ a + i = g + 7 ∨ a + i = g + 9 ∨ a + i = g + 11) ∨ a + i = a + 91) ∨ (a + i = a + 93 ∨ a + i = a + 95 ∨ a + i = g + 7) := z
    first | exact l33z hg hi z' | omega)
theorem lst3.eo {F : Prop} {R' W' T' : Nat} (k : EO F M2 a g R' W' T' M3) : lst3 M2 a M3 := lst3.of k.1 (fun i hi z => by omega)
theorem lst3.ui {x : Nat} {v : Int} (h : Lc M2 a g N T2 K) (hv : i32 v) {i : Nat} (hi : 18 ≤ i ∧ i ≤ 21) (f1 : frO (13 + i)) (f2 : frO (49 + i)) (e : M3 = mUI M2 (g + i) W v) : lst3 M2 a M3 ∧ ∀ n, pm M3 g n = pm M2 g n := by
  obtain ⟨-, -, -, m3, -, -⟩ := gsti h hv (by omega) f1 f2 (fun z => by omega) e
  exact ⟨lst3.of m3 (fun _ _ z => z), fun n => (m3.lst (tL_in (q := g + 3) h.2.2.2.2.2.1 (by omega)) (fun z => z)).2.1 n⟩
theorem lst3.sp {c p : Int} (hg : g = a + 13 ∨ g = a + 49) (q : Mv (fun _ => False) (fun x => x = a) M2 a M3 ∧ mI M3 a 16 = c ∧ mI M3 a 17 = p ∧ ∀ i, i ≠ 16 → i ≠ 17 → mI M3 a i = mI M2 a i) : lst3 M2 a M3 ∧ ∀ n, pm M3 g n = pm M2 g n := ⟨lst3.of q.1 (fun _ _ z => z), fun n => (q.1.lst (tL_in (q := g + 3) hg (tLk3 g)) (fun z => z)).2.1 n⟩
end VXA
end
section
/-! The reference's vars, exactly: their end. -/
section VXB
variable {G : mG} {d a g R W C Z T T2 T3 N K : Nat} {M M2 M3 : mM} {E : Eg9} {tg bl : Int} {s s' : st9} {nv : Nat → Int}
theorem x_vi410 {gm : gm9} {x : Int × Int × Int} {k e : Nat} (eγ : E.2 = txg M a N s.1 gm) (hx9 : mI M2 a 16 = 0 → mI M2 (g + 19) W = x.1 ∧ mI M2 (g + 20) W = x.2.1 ∧ mI M2 (g + 21) W = x.2.2) (hb : bl = 0 ∨ bl = 1) (h : Df M a g N T K R W C Z E tg) (hS : RSq M a g K s.1) (hW : W < 12) (hk : k + 1 < N) (v2 : vI M a g N T K R W C Z bl T2 M2) (l2 : lst3 M a M2) (hnew : fdn M a K (k + 1) = -1) (hTe : T2 ≤ e) (hZe : Z ≤ e) (hv : mI M2 a 16 = 0 → (mI M2 (g + 18) W ≠ 0 → mI M2 (g + 19) W = 0 ∧ mI M2 (g + 20) W = 1) ∧ mI M2 (g + 19) W ≤ mI M2 (g + 21) W ∧ mI M2 (g + 21) W ≤ mI M2 (g + 20) W ∧ -1000000000 < mI M2 (g + 19) W ∧ mI M2 (g + 20) W < 1000000000) (flt : mI M2 a 16 ≠ 0 → s'.2.2.1 ≠ 0 ∧ fpw M2 a s'.2.2) (good : mI M2 a 16 = 0 → s' = (s.1 ++ [(k + 1, 3, bl, (0, 0, 1))], (W + 1, R, C, if tg = -1 then 0 else 1), (0, 0))) : h_MM_varItem_410 G (d + 7) a k W M2 (fun M' => mOk M' ∧ itX M a g N e s' (gm.1 ++ [x], gm.2) M') := by
  obtain ⟨hL, ⟨g6, g12, g18, g17⟩, ⟨y30, y32, y34⟩, hK, hD⟩ := id h
  have RS9 := vI.rs h hS v2 l2
  have sx9 := v2.sx hL.2.1.1.1
  obtain ⟨L9, I9, gI9, ⟨z30, z32, z34⟩, c18, hT, G9⟩ := v2
  have hN := hL.2.1.1.2.2
  have hg := hL.2.2.2.2.2.1
  have hBd := hD.1
  have w9 := L9.2.1.1.1
  refine k_MM_varItem_410 L9.1 (i32s (by omega) (by omega)) (i32s (by omega) (by omega)) ?_
  rw [show mR M2 a 10 = g from L9.2.2.2.2.1]
  refine ⟨w9.1.1, (w9.gp hg).1, i32s (by omega) (by omega), fun M1 e1 => ?_⟩
  have a0 := goff0 hg
  obtain ⟨m1, f1, l1⟩ := mv_cell (v := (W : Int) + 1) (i32s (by omega) (by omega)) L9.1 w9 (show a ≤ g by omega) ⟨a0.1, a0.2.1, a0.2.2.1⟩ e1
  have no : ∀ q : Nat, False → q ∈ nums a := fun _ z => z.elim
  have aI1 := (m1.fld w9 no (by omega)).1
  have g1 : ∀ i, mI M1 g i = if i = 12 then (W : Int) + 1 else mI M g i := fun i => by
    rw [f1]
    by_cases z : i = 12
    · rw [if_pos ⟨rfl, z⟩, if_pos z]
    · rw [if_neg (fun y => z y.2), if_neg z, gI9]
  have x12 : mI M1 g 12 = (W : Int) + 1 := by rw [g1, if_pos rfl]
  have x6 : mI M1 g 6 = R := by rw [g1, if_neg (by omega), g6]
  have L1 : Lc M1 a g N T2 K := L9.mv m1 no (fun _ z => z.elim) (by rw [x6, gI9, g6]; omega) (by rw [x12, gI9, g12]; omega) ⟨by omega, by omega⟩ (fun r _ => by rw [f1, if_neg (fun z => by omega)])
  have I1 : iF M a g M1 := I9.trans (iF.mk w9 m1 (fun _ z => z.elim) (fun x z => Or.inr (Or.inl (by omega))) (fun i _ _ _ => by rw [aI1]))
  have w1 := m1.2.1
  refine (s_MM_know (d := d + 6) (u := (k : Int) + 1) (i32s (by omega) (by omega)) (i32s (by omega) (by omega)) (i32s (by omega) (by omega)) L1.1 w1 L1.2.2.1.1 L1.2.2.1.2.1 L1.2.2.1.2.2.1 (by omega)).mono (fun M3 t => ?_)
  obtain ⟨o2, m2, lx2, p2, e2, s2, x2⟩ := t
  obtain ⟨L2, gI2, aI2⟩ := L1.kn (by omega) m2 lx2 p2 e2 s2 x2 (by omega) (Or.inl ⟨rfl, by omega, by omega⟩) (fun z => by omega)
  obtain ⟨G2, q30, q32, q34⟩ := ge_kn (R := R) (W := W + 1) (C := C) (Z := Z) (T := T2) w1 hg m2
  have I2 : iF M a g M3 := I1.trans (iF.mk w1 m2 (fun q hq => knP_it hq) (fun _ z => z.elim) (fun i _ _ _ => by rw [aI2]))
  refine ⟨o2, o2, I2, ?_⟩
  have e16 : mI M3 a 16 = mI M2 a 16 := by rw [aI2, aI1]
  by_cases z16 : mI M3 a 16 = 0
  · have u1 := good (by rw [← e16]; exact z16)
    refine Or.inr ⟨by rw [u1], z16, T2, K + 1, R, W + 1, C, Z, (E.1, gWs E.2 (E.2.2.2.2.2.2.1 ++ [(k + 1, 3, bl, (0, 0, 1))]) (E.2.2.2.2.2.2.2.1 ++ [x], E.2.2.2.2.2.2.2.2)), tg, ⟨L2, ⟨by rw [gI2, x6], by rw [gI2, x12]; omega, by rw [gI2, g1, if_neg (by omega), g18], by rw [gI2, g1, if_neg (by omega), g17]⟩, ⟨?_, ?_, ?_⟩, by omega, ?_⟩, ⟨hTe, hZe⟩, ?_, by rw [u1], ?_⟩
    · rw [q30, (m1.lst (n30 hg) (fun z => z)).1, z30, y30]
    · rw [q32, (m1.lst (n32 hg) (fun z => z)).1, z32, y32]
    · rw [q34, (m1.lst (n34 hg) (fun z => z)).1, z34, y34]
    · have hv := hv (by rw [← e16]; exact z16)
      have D8 := (hD.ge G9).tu hT
      have D9 : Dg M2 g R (W + 1) C Z T2 (E.1, gWs E.2 (E.2.2.2.2.2.2.1 ++ [(k + 1, 3, bl, (0, 0, 1))]) (E.2.2.2.2.2.2.2.1 ++ [x], E.2.2.2.2.2.2.2.2)) tg := D8.vu hW rfl (D8.2.2.2.2.2.2.2.vu rfl (hx9 (by rw [← e16]; exact z16))) ⟨hv.1, hv.2.1, hv.2.2.1, hv.2.2.2.1, hv.2.2.2.2, by rw [c18]; exact hb⟩
      have G1 : Ge M2 g R (W + 1) C Z T2 M1 := ge_mv w9 hg m1 no (fun z => z) (fun z => z) (fun z => z) (fun i i1 i2 (z : g + i = g) => by omega) (fun n _ => ⟨(m1.lst (tL_in (q := g + 1) hg (tLk1 g)) (fun z => z)).2.1 n, (m1.lst (tL_in (q := g + 7) hg (tLk7 g)) (fun z => z)).2.1 n, (m1.lst (tL_in (q := g + 9) hg (tLk9 g)) (fun z => z)).2.1 n, (m1.lst (tL_in (q := g + 11) hg (tLk11 g)) (fun z => z)).2.1 n, (m1.lst (tL_in (q := g + 3) hg (tLk3 g)) (fun z => z)).2.1 n⟩)
      exact (D9.ge G1).ge G2
    · have t1 : tn M1 g = tn M2 g := by
        funext v
        unfold tn
        rw [show mI M1 (g + 18) = mI M2 (g + 18) from funext (fun i => by rw [f1, if_neg (fun z => by omega)]), show mI M1 (g + 14) = mI M2 (g + 14) from funext (fun i => by rw [f1, if_neg (fun z => by omega)])]
      have c14 := m2.cellL w1 (fun q hq => knP_in hq) (goffx (i := 14) hg (by decide) (by decide)) (fun z => z)
      have c16 := m2.cellL w1 (fun q hq => knP_in hq) (goffx (i := 16) hg (by decide) (by decide)) (fun z => z)
      have c17 := m2.cellL w1 (fun q hq => knP_in hq) (goffx (i := 17) hg (by decide) (by decide)) (fun z => z)
      have k18 := m2.cellL w1 (fun q hq => knP_in hq) (goffx (i := 18) hg (by decide) (by decide)) (fun z => z)
      have t2 : tn M3 g = tn M1 g := by
        funext v
        unfold tn
        rw [k18.1, c14.1]
      have sx1 : SXq M2 a M1 := (iF.mk (g := g) w9 m1 (fun _ z => z.elim) (fun x z => Or.inr (Or.inl (by omega))) (fun i _ _ _ => by rw [aI1])).sx w9 hg
      have sx2 : SXq M1 a M3 := (iF.mk (g := g) w1 m2 (fun q hq => knP_it hq) (fun _ z => z.elim) (fun i _ _ _ => by rw [aI2])).sx w1 hg
      have l31 : lst3 M2 a M1 := lst3.of m1 (fun _ _ z => z)
      have RS1 : RSq M1 a g K s.1 := RS9.eq (l31.q K) t1 ⟨by rw [l1], by rw [l1]⟩ sx1
      have hWr : vcn s.1 = W := by
        have := hD.2.2.2.2.2.2.2.1.2
        rw [eγ] at this
        exact this
      rw [u1]
      refine RS1.kn (u := k + 1) (e := (k + 1, 3, bl, (0, 0, 1))) p2 t2 ⟨c16.2, c17.2⟩ sx2 (by rw [e2]; omega) s2 x2 rfl rfl ⟨by simp, by simp⟩ ?_ (fun z => absurd z (by simp)) ?_ (fun _ p hp z => ?_) (by rw [hWr]; rfl)
      · show bl = _
        rw [t1, if_pos rfl]
        unfold tn
        rw [if_pos (show (100 : Int) ≤ 100 + (W : Int) by omega), show (100 + (W : Int) - 100).toNat = W by omega, c18]
        rcases hb with z | z <;> rw [z] <;> rfl
      · rw [l31.fd sx1, l2.fd sx9]
        exact hnew
      · rw [(l31.q K p hp).2.1, (l2.q K p hp).2.1] at z
        rw [(l31.q K p hp).2.2, (l2.q K p hp).2.2]
        have nq := (hL.2.2.1.2.2.2.2 p hp).2.1
        rw [g6, g12] at nq
        omega
    · rw [u1, (I2.sx hL.2.1.1.1 hg).tx9]
      show gWs E.2 _ _ = _
      rw [eγ]
      rfl
  · obtain ⟨u1, u2⟩ := flt (by rw [← e16]; exact z16)
    refine Or.inl ⟨u1, ?_, ?_⟩
    · rw [e16]; exact u2.1
    · rw [show mI M3 a 17 = mI M2 a 17 by rw [aI2, aI1]]; exact u2.2
theorem x_vi369 {gm : gm9} {x9 : Int × Int × Int} {k e e9 i : Nat} {l6 l10 : Int} {V : vrs} (eγ : E.2 = txg M a N s.1 gm) (hx9 : mI M2 a 16 = 0 → mI M2 (g + 19) W = x9.1 ∧ mI M2 (g + 20) W = x9.2.1 ∧ x9.2.2 = if l6 ≠ 0 then V.2.1 else x9.1) (h : Df M a g N T K R W C Z E tg) (hS : RSq M a g K s.1) (hW : W < 12) (hk : k + 1 < N) (hi : i < N) (hi1 : l6 ≠ 0 → i + 1 < N) (v2 : vI M a g N T K R W C Z bl T2 M2) (l2 : lst3 M a M2) (hnew : fdn M a K (k + 1) = -1) (hTe : T2 ≤ e) (hZe : Z ≤ e) (hT16 : T2 ≤ 16384) (il6 : i32 l6) (il10 : i32 l10) (hb : bl = 0 ∨ bl = 1) (hv : mI M2 a 16 = 0 → (bl ≠ 0 → mI M2 (g + 19) W = 0 ∧ mI M2 (g + 20) W = 1) ∧ mI M2 (g + 19) W ≤ mI M2 (g + 20) W ∧ -1000000000 < mI M2 (g + 19) W ∧ mI M2 (g + 20) W < 1000000000) (hf : l6 ≠ 0 → ∃ n : Nat, l10 = n ∧ Ctx M2 a g R W T2 (nrq M a (rvn M a K)) (i + 1) e9 n bl) (hfl : l6 ≠ 0 → Eo (wk M a) 6 (i + 1) e9 ∧ (fl (wk M a) (E9 (smx M a) s.1 1) (nt M (a + 7)) 0 (i + 1) e9).1 = 0) (hV : V = vlq (wk M a) (cv9 (wk M a) (nuq M a) (smx M a) s.1) (nt M (a + 7)) 0 0 (i + 1) e9) (flt : mI M2 a 16 ≠ 0 → s'.2.2.1 ≠ 0 ∧ fpw M2 a s'.2.2) (flb : mI M2 a 16 = 0 → l6 ≠ 0 → (bef bl (mI M2 (g + 19) W) (mI M2 (g + 20) W) (nt M (a + 7) (i + 1)) V).1 ≠ 0 → s'.2.2 = (bef bl (mI M2 (g + 19) W) (mI M2 (g + 20) W) (nt M (a + 7) (i + 1)) V)) (good : mI M2 a 16 = 0 → (l6 ≠ 0 → (bef bl (mI M2 (g + 19) W) (mI M2 (g + 20) W) (nt M (a + 7) (i + 1)) V).1 = 0) → s' = (s.1 ++ [(k + 1, 3, bl, (0, 0, 1))], (W + 1, R, C, if tg = -1 then 0 else 1), (0, 0))) : h_MM_varItem_369 G (d + 7) a k W i l6 l10 M2 (fun M' => mOk M' ∧ itX M a g N e s' (gm.1 ++ [x9], gm.2) M') := by
  have hN := h.1.2.1.1.2.2
  have hg := h.1.2.2.2.2.2.1
  have L2 := v2.1
  have w2 := L2.2.1.1.1
  have b14 := (w2.gp hg).2.2.2.2.1.2.1
  have b16 := (w2.gp hg).2.2.2.2.1.2.2.2
  refine k_MM_varItem_369 L2.1 (i32s (by omega) (by omega)) (i32s (by omega) (by omega)) (i32s (by omega) (by omega)) il6 il10 ?_
  rw [show mR M2 a 10 = g from L2.2.2.2.2.1, show mR M2 g 14 = g + 19 from (w2.gp hg).2.2.1.2.1, show mR M2 g 16 = g + 21 from (w2.gp hg).2.2.1.2.2.2.1, Int.toNat_natCast]
  refine ⟨w2.1.1, (w2.gp hg).1, b14.1, by rw [b14.2]; omega, b16.1, by rw [b16.2]; omega, fun M3 e3 => ?_⟩
  obtain ⟨v3, f3, a3⟩ := v2.st (i := 21) (L2.1 _ _).1 (by omega) (by decide) (by decide) e3
  have x3 := lst3.ui (x := 0) (i := 21) L2 (L2.1 _ _).1 (by omega) (by decide) (by decide) e3
  have l3 := l2.trans x3.1
  have c18 : mI M3 (g + 18) W = bl := v3.2.2.2.2.1
  have c19 : mI M3 (g + 19) W = mI M2 (g + 19) W := by rw [f3, if_neg (fun z => by omega)]
  have c20 : mI M3 (g + 20) W = mI M2 (g + 20) W := by rw [f3, if_neg (fun z => by omega)]
  have c21 : mI M3 (g + 21) W = mI M2 (g + 19) W := by rw [f3, if_pos ⟨rfl, rfl⟩]
  have e16 : mI M3 a 16 = mI M2 a 16 := by rw [a3]
  refine ⟨fun q => x_vi410 eγ (fun z => ?_) hb h hS hW hk v3 l3 hnew hTe hZe (fun z => ?_) (fun z => ?_) (fun z => good (by rw [← e16]; exact z) (fun n6 => q.elim (fun y => absurd y n6) (fun y => absurd z y))), fun q => ?_⟩
  · obtain ⟨p1, p2, p3⟩ := hx9 (by rw [← e16]; exact z)
    have l0 : l6 = 0 := q.elim id (fun y => absurd z y)
    rw [if_neg (fun u => u l0)] at p3
    exact ⟨by rw [c19, p1], by rw [c20, p2], by rw [c21, p1, p3]⟩
  · have := hv (by rw [← e16]; exact z)
    rw [c18, c19, c20, c21]
    exact ⟨this.1, by omega, this.2.1, this.2.2.1, this.2.2.2⟩
  · obtain ⟨u1, u2⟩ := flt (by rw [← e16]; exact z)
    exact ⟨u1, by rw [a3]; exact u2.1, by rw [a3]; exact u2.2⟩
  · have q1 : l6 ≠ 0 := fun z => q (Or.inl z)
    have q2 : mI M3 a 16 = 0 := Classical.byContradiction (fun z => q (Or.inr z))
    obtain ⟨n, hn, ct⟩ := hf q1
    subst hn
    obtain ⟨eo, fl0⟩ := hfl q1
    clear hf hfl q
    have g3 := gsti (i := 21) L2 (L2.1 _ _).1 (by omega) (by decide) (by decide) (fun z => by omega) e3
    have hv := hv (by rw [← e16]; exact q2)
    have ct3 : Ctx M3 a g R W T2 (nrq M a (rvn M a K)) (i + 1) e9 n bl := ct.gn (ge_st (R := R) (W := W) (C := C) (Z := Z) (T := T2) hg g3.2.2.2.1 f3 (by rw [e3]; rfl) (by omega) (fun _ _ => Nat.le_refl W) (by omega) (by omega)).1 h.2.2.2.2.1.1 (g3.2.1.sx w2 hg) (fun n _ => x3.2 n)
    rw [show (i : Int) + 1 = ((i + 1 : Nat) : Int) by omega]
    refine (x_MM_begins (d := d + 1) v3.1 (v3.ev h.2.2.2.2 hT16) q2 ct3 hW (fun z => by omega) (fun z => by omega) (hi1 q1)).mono (fun M4 t4 => ⟨t4.1, ?_⟩)
    obtain ⟨-, M5, x, E5, ix, e4, hx, hbx⟩ := t4
    rw [c18, c19, c20, (v3.sx h.1.2.1.1.1).2.1, vI.vl h hS v3 l3 eo fl0, ← hV] at hbx
    have v5 := v3.eo E5
    obtain ⟨v4, f4, a4⟩ := v5.st (i := 21) ix (by omega) (by decide) (by decide) e4
    have l4 := (l3.trans (lst3.eo E5)).trans (lst3.ui (x := 0) (i := 21) v5.1 ix (by omega) (by decide) (by decide) e4).1
    have w3 := v3.1.2.1.1.1
    have hin : ∀ q, q = a + 99 → q ∈ nums a := fun q hq => by rw [hq]; exact n99
    have keep : ∀ (j : Nat), j ≤ 29 → frO (13 + j) → frO (49 + j) → mI M5 (g + j) = mI M3 (g + j) := fun j j1 f1 f2 => (E5.1.cellL w3 hin (goffx hg f1 f2) (fun z => by
      have : g + j = a ∨ g + j = a + 97 ∨ g + j = a + 98 ∨ g + j = a + 102 ∨ g + j = a + 103 ∨ g + j = a + 104 := z
      omega)).1
    have d18 : mI M4 (g + 18) W = bl := v4.2.2.2.2.1
    have d19 : mI M4 (g + 19) W = mI M2 (g + 19) W := by rw [f4, if_neg (fun z => by omega), keep 19 (by omega) (by decide) (by decide), c19]
    have d20 : mI M4 (g + 20) W = mI M2 (g + 20) W := by rw [f4, if_neg (fun z => by omega), keep 20 (by omega) (by decide) (by decide), c20]
    have d21 : mI M4 (g + 21) W = x := by rw [f4, if_pos ⟨rfl, rfl⟩]
    have z2 : mI M2 a 16 = 0 := by rw [← e16]; exact q2
    refine x_vi410 (x := x9) eγ (fun z => ?_) hb h hS hW hk v4 l4 hnew hTe hZe (fun z => ?_) (fun z => ?_) (fun z => ?_)
    · obtain ⟨p1, p2, p3⟩ := hx9 z2
      rw [if_pos q1] at p3
      rcases hbx with ⟨y1, y2⟩ | ⟨y1, y2, y3⟩
      · rw [a4, y2.1] at z; exact absurd z y1
      · exact ⟨by rw [d19, p1], by rw [d20, p2], by rw [d21, p3, y3]⟩
    rotate_left
    · rcases hbx with ⟨y1, y2⟩ | ⟨y1, y2, -⟩
      · rw [flb z2 q1 y1]
        exact ⟨y1, by rw [a4]; exact y2.1, by rw [a4]; exact y2.2⟩
      · rw [a4] at z; exact absurd y2 z
    · rcases hbx with ⟨y1, y2⟩ | ⟨y1, y2, -⟩
      · rw [a4, y2.1] at z; exact absurd z y1
      · exact good z2 (fun _ => y1)
    have hx := hx (by rw [← a4]; exact z)
    rw [c18, c19, c20] at hx
    rw [d18, d19, d20, d21]
    refine ⟨hv.1, ?_, ?_, hv.2.2.1, hv.2.2.2⟩
    · rcases hb with y | y
      · exact (hx.1 y).1
      · have := hx.2 (by omega); have := hv.1 (by omega); omega
    · rcases hb with y | y
      · exact (hx.1 y).2
      · have := hx.2 (by omega); have := hv.1 (by omega); omega
end VXB
end
section
/-! The reference's vars, exactly: ranges. -/
section VXC
variable {G : mG} {d a g R W C Z T T2 T3 N K : Nat} {M M2 M3 : mM} {E : Eg9} {tg bl : Int} {s s' : st9} {nv : Nat → Int}
theorem fst9_z {x y : Int × Int} (h : (fst9 x y).1 = 0) : x.1 = 0 ∧ y.1 = 0 := by
  unfold fst9 at h
  split at h
  · rename_i q; exact ⟨q, h⟩
  · rename_i q; exact absurd h q
/-- the faults of a range -/
def rgf (lo hi : vrs) (p1 p2 : Int) : Int × Int := fst9 (fst9 (wh9 lo p1) (wh9 hi p2)) (if lo.2.1 ≤ hi.2.1 ∧ hi.2.1 - lo.2.1 < 10000 then (0, 0) else (9, p2))
/-- the same fault in both -/
theorem vI.rf {i j : Nat} {tr : Int} (h : Df M a g N T K R W C Z E tg) (hS : RSq M a g K s.1) (v : vI M a g N T K R W C Z bl T2 M2) (h3 : lst3 M a M2) : rfq M2 a (Ern M2 a g K 1) tr i j = rf9 (wk M a) (nt M (a + 7)) (smx M a) s.1 1 tr i j := by
  have sx := v.sx h.1.2.1.1.1
  unfold rfq rf9
  rw [sx.1, sx.2.1, vI.ern h hS v h3, hS.en (Or.inr rfl)]
/-- a rule of consts inside a var -/
theorem x_vrule {i j : Nat} {tr : Int} {Q : Int → mM → Prop} (h : Df M a g N T K R W C Z E tg) (hS : RSq M a g K s.1) (v2 : vI M a g N T K R W C Z bl T2 M2) (l2 : lst3 M a M2) (z2 : mI M2 a 16 = 0) (htr : tr = 0 ∨ tr = 1) (hT : T2 + (j - i) ≤ 30000) (eo : Eo (wk M a) 6 i j) (hj : j < N) (hbad : ∀ (M3 : mM) (T3 : Nat), Lc M3 a g N T3 K → iF M a g M3 → mI M3 a 16 ≠ 0 → (rf9 (wk M a) (nt M (a + 7)) (smx M a) s.1 1 tr i j).1 ≠ 0 → fpw M3 a (rf9 (wk M a) (nt M (a + 7)) (smx M a) s.1 1 tr i j) → Q T2 M3) (hgood : ∀ (M3 : mM) (T3 : Nat), T2 < T3 → T3 ≤ T2 + (j - i) → vI M a g N T K R W C Z bl T3 M3 → lst3 M a M3 → mI M3 a 16 = 0 → (rf9 (wk M a) (nt M (a + 7)) (smx M a) s.1 1 tr i j).1 = 0 → Ctx M3 a g R W T3 (nrq M a (rvn M a K)) i j T2 tr → (Ge M2 g R W C Z T2 M3 ∧ SXq M2 a M3 ∧ ∀ n, n < T2 → pm M3 g n = pm M2 g n) → Q T2 M3) : Ci G y_MM_rule1 (d + 7) [vr a, vi i, vi j, vi tr, vi 1] M2 Q := by
  have L2 := v2.1
  have hg := h.1.2.2.2.2.2.1
  have sx2 := v2.sx h.1.2.1.1.1
  refine (x_MM_rule1 (d := d) (co := 1) (tr := tr) (ur_n (M := M2) (a := a) (g := g) (N := N) (K := K) (co := 1)) ⟨by decide, by decide⟩ htr L2 hT (by rw [sx2.1]; exact eo) hj).mono (fun x M3 q3 => ?_)
  obtain ⟨ex, T3, t1, t2, Rl, qx⟩ := q3
  subst ex
  rw [vI.rf h hS v2 l2] at qx
  have l3 := l2.trans (lst3.rl hg Rl)
  have I3 := (rlR.ge (R := R) (W := W) (C := C) (Z := Z) L2 Rl).1
  rcases qx with q | ⟨q, qf⟩ | ⟨q, q1, q2, q4⟩
  · exact absurd z2 q
  · exact hbad M3 T3 Rl.2.1 (v2.2.1.trans I3) q (by rw [← qf.1]; exact q) qf
  · have v3 := v2.rl (Nat.le_of_lt t1) Rl q q4
    have ct := rl_ctx (W := W) L2 (v2.g6 h) h.2.2.2.2.1.1 (by rw [sx2.1]; exact eo) Rl q q4 q2
    rw [vI.nr h v2 l2] at ct
    exact hgood M3 T3 t1 t2 v3 l3 q q1 ct ⟨(rlR.ge (R := R) (W := W) (C := C) (Z := Z) L2 Rl).2.1 q q4, I3.sx L2.2.1.1.1 hg, q4⟩
theorem x_vi215x {gm : gm9} {e : Nat} {l1 l3 l4 l5 l6 l7 l8 l9 k0 : Int} (L2 : Lc M2 a g N T2 K) (I2 : iF M a g M2) (z : mI M2 a 16 ≠ 0) (flt : s'.2.2.1 ≠ 0 ∧ fpw M2 a s'.2.2) (i1 : i32 l1) (i3 : i32 l3) (i4 : i32 l4) (i5 : i32 l5) (i6 : i32 l6) (i7 : i32 l7) (i8 : i32 l8) (i9 : i32 l9) (i0 : i32 k0) : h_MM_varItem_215 G (d + 7) a l1 l3 l4 l5 l6 l7 l8 l9 k0 M2 (fun M' => mOk M' ∧ itX M a g N e s' gm M') :=
  k_MM_varItem_215w L2.1 i1 i3 i4 i5 i6 i7 i8 i9 i0 ⟨L2.2.1.1.1.1.1, fun y => absurd y z, fun _ => ⟨L2.1, I2, Or.inl flt⟩⟩
theorem x_vi185x {gm : gm9} {e : Nat} {l1 l2 l3 l4 l5 l6 l7 l9 k0 : Int} (L2 : Lc M2 a g N T2 K) (I2 : iF M a g M2) (z : mI M2 a 16 ≠ 0) (flt : s'.2.2.1 ≠ 0 ∧ fpw M2 a s'.2.2) (i1 : i32 l1) (i2 : i32 l2) (i3 : i32 l3) (i4 : i32 l4) (i5 : i32 l5) (i6 : i32 l6) (i7 : i32 l7) (i9 : i32 l9) (i0 : i32 k0) : h_MM_varItem_185 G (d + 7) a l1 l2 l3 l4 l5 l6 l7 l9 k0 M2 (fun M' => mOk M' ∧ itX M a g N e s' gm M') :=
  k_MM_varItem_185 L2.1 i1 i2 i3 i4 i5 i6 i7 i9 i0 ⟨fun _ => L2.2.1.1.1.1.1, fun _ => x_vi215x L2 I2 z flt i1 i3 i4 i5 i6 i7 i0 i9 ⟨by decide, by decide⟩, fun q => absurd (Or.inr z) q⟩
theorem SXq.to (h : SXq M a M2) (k : SXq M a M3) : SXq M2 a M3 := ⟨k.1.trans h.1.symm, k.2.1.trans h.2.1.symm, k.2.2.1.trans h.2.2.1.symm, k.2.2.2.trans h.2.2.2.symm⟩
theorem x_vi215b {gm : gm9} {x9 : Int × Int × Int} {k e e9 i : Nat} {l6 l10 : Int} {V : vrs} (eγ : E.2 = txg M a N s.1 gm) (hx9 : x9 = (0, 1, if l6 ≠ 0 then V.2.1 else 0)) (h : Df M a g N T K R W C Z E tg) (hS : RSq M a g K s.1) (hW : W < 12) (hk : k + 3 < N) (hi : i < N) (hi1 : l6 ≠ 0 → i + 1 < N) (v2 : vI M a g N T K R W C Z 1 T2 M2) (l2 : lst3 M a M2) (hnew : fdn M a K (k + 1) = -1) (hTe : T2 ≤ e) (hZe : Z ≤ e) (hT16 : T2 ≤ 16384) (il6 : i32 l6) (il10 : i32 l10) (z16 : mI M2 a 16 = 0) (hf : l6 ≠ 0 → ∃ n : Nat, l10 = n ∧ Ctx M2 a g R W T2 (nrq M a (rvn M a K)) (i + 1) e9 n 1) (hfl : l6 ≠ 0 → Eo (wk M a) 6 (i + 1) e9 ∧ (fl (wk M a) (E9 (smx M a) s.1 1) (nt M (a + 7)) 0 (i + 1) e9).1 = 0) (hV : V = vlq (wk M a) (cv9 (wk M a) (nuq M a) (smx M a) s.1) (nt M (a + 7)) 0 0 (i + 1) e9) (flb : l6 ≠ 0 → (wh9 V (nt M (a + 7) (i + 1))).1 ≠ 0 → s'.2.2 = wh9 V (nt M (a + 7) (i + 1))) (good : (l6 ≠ 0 → (wh9 V (nt M (a + 7) (i + 1))).1 = 0) → s' = (s.1 ++ [(k + 1, 3, 1, (0, 0, 1))], (W + 1, R, C, if tg = -1 then 0 else 1), (0, 0))) : h_MM_varItem_215 G (d + 7) a k W 1 i l6 (-1) (-1) ((k : Int) + 3) l10 M2 (fun M' => mOk M' ∧ itX M a g N e s' (gm.1 ++ [x9], gm.2) M') := by
  have hN := h.1.2.1.1.2.2
  have hg := h.1.2.2.2.2.2.1
  have hR := h.2.2.2.2.1.1
  have L2 := v2.1
  have w2 := L2.2.1.1.1
  have ik : i32 (k : Int) := i32s (by omega) (by omega)
  have iW : i32 (W : Int) := i32s (by omega) (by omega)
  have ii : i32 (i : Int) := i32s (by omega) (by omega)
  have ik3 : i32 ((k : Int) + 3) := i32s (by omega) (by omega)
  have W12 : ((0 : Int) ≤ W ∧ (W : Int) < ((12 : Nat) : Int)) := by omega
  refine k_MM_varItem_215w L2.1 ik iW ⟨by decide, by decide⟩ ii il6 ⟨by decide, by decide⟩ ⟨by decide, by decide⟩ ik3 il10 ⟨w2.1.1, fun _ => ⟨fun y => absurd y (by decide), fun _ => ?_⟩, fun y => absurd z16 y⟩
  rw [show mR M2 a 10 = g from L2.2.2.2.2.1, show mR M2 g 14 = g + 19 from (w2.gp hg).2.2.1.2.1, Int.toNat_natCast]
  refine ⟨(w2.gp hg).1, (w2.gp hg).2.2.2.2.1.2.1.1, by rw [(w2.gp hg).2.2.2.2.1.2.1.2]; exact W12, fun M3 e3 => ?_⟩
  have G3 := vst_ge (R := R) (C := C) (Z := Z) (i := 19) (v := 0) L2 ⟨by decide, by decide⟩ (by omega) (by decide) (by decide) e3
  obtain ⟨v3, f3, a3⟩ := v2.st (i := 19) (v := 0) ⟨by decide, by decide⟩ (by omega) (by decide) (by decide) e3
  have L3 := v3.1
  have w3 := L3.2.1.1.1
  rw [show mR M3 a 10 = g from L3.2.2.2.2.1, show mR M3 g 15 = g + 20 from (w3.gp hg).2.2.1.2.2.1]
  refine ⟨(w3.gp hg).1, (w3.gp hg).2.2.2.2.1.2.2.1.1, by rw [(w3.gp hg).2.2.2.2.1.2.2.1.2]; exact W12, fun M4 e4 => ?_⟩
  have G4 := vst_ge (R := R) (C := C) (Z := Z) (i := 20) (v := 1) L3 ⟨by decide, by decide⟩ (by omega) (by decide) (by decide) e4
  obtain ⟨v4, f4, a4⟩ := v3.st (i := 20) (v := 1) ⟨by decide, by decide⟩ (by omega) (by decide) (by decide) e4
  have G24 := G3.trans G4
  have x3 := lst3.ui (x := 0) (i := 19) (v := 0) L2 ⟨by decide, by decide⟩ (by omega) (by decide) (by decide) e3
  have x4 := lst3.ui (x := 0) (i := 20) (v := 1) L3 ⟨by decide, by decide⟩ (by omega) (by decide) (by decide) e4
  have l4 := (l2.trans x3.1).trans x4.1
  have w0 := h.1.2.1.1.1
  have sx24 : SXq M2 a M4 := SXq.to (v2.sx w0) (v4.sx w0)
  have z4 : mI M4 a 16 = 0 := by rw [a4, a3]; exact z16
  have bz : ∀ lo hi p : Int, bef 1 lo hi p V = wh9 V p := fun lo hi p => if_pos (by decide)
  have c19 : mI M4 (g + 19) W = 0 := by rw [f4, if_neg (fun z => by omega), f3, if_pos ⟨rfl, rfl⟩]
  have c20 : mI M4 (g + 20) W = 1 := by rw [f4, if_pos ⟨rfl, rfl⟩]
  refine x_vi369 (x9 := x9) eγ (fun _ => by rw [c19, c20, hx9]; exact ⟨rfl, rfl, rfl⟩) h hS hW (by omega) hi hi1 v4 l4 hnew hTe hZe hT16 il6 il10 (Or.inr rfl) (fun _ => ?_) (fun q => ?_) hfl hV (fun z => absurd z4 z) (fun _ n6 => by rw [bz]; exact flb n6) (fun _ n6 => good (fun q => by rw [← bz]; exact n6 q))
  · rw [c19, c20]
    exact ⟨fun _ => ⟨rfl, rfl⟩, by decide, by decide, by decide⟩
  · obtain ⟨n, hn, ct⟩ := hf q
    exact ⟨n, hn, ct.gn G24.1 hR sx24 (fun n _ => (x4.2 n).trans (x3.2 n))⟩
theorem x_vi215n {gm : gm9} {x9 : Int × Int × Int} {k e e9 i j lo hi : Nat} {l6 l10 : Int} {V Vl Vh : vrs} (eγ : E.2 = txg M a N s.1 gm) (hx9 : x9 = (Vl.2.1, Vh.2.1, if l6 ≠ 0 then V.2.1 else Vl.2.1)) (h : Df M a g N T K R W C Z E tg) (hS : RSq M a g K s.1) (hW : W < 12) (hk : k + 3 < N) (hi' : i < N) (hi1 : l6 ≠ 0 → i + 1 < N) (hj : j + 1 < N) (v2 : vI M a g N T K R W C Z 0 T2 M2) (l2 : lst3 M a M2) (hnew : fdn M a K (k + 1) = -1) (hTe : T2 ≤ e) (hZe : Z ≤ e) (hT16 : T2 ≤ 16384) (il6 : i32 l6) (il10 : i32 l10) (z16 : mI M2 a 16 = 0) (cl : Ctx M2 a g R W T2 (nrq M a (rvn M a K)) (k + 3) j lo 0) (ch : Ctx M2 a g R W T2 (nrq M a (rvn M a K)) (j + 1) i hi 0) (fl1 : (fl (wk M a) (E9 (smx M a) s.1 1) (nt M (a + 7)) 0 (k + 3) j).1 = 0) (fl2 : (fl (wk M a) (E9 (smx M a) s.1 1) (nt M (a + 7)) 0 (j + 1) i).1 = 0) (hf : l6 ≠ 0 → ∃ n : Nat, l10 = n ∧ Ctx M2 a g R W T2 (nrq M a (rvn M a K)) (i + 1) e9 n 0) (hfl : l6 ≠ 0 → Eo (wk M a) 6 (i + 1) e9 ∧ (fl (wk M a) (E9 (smx M a) s.1 1) (nt M (a + 7)) 0 (i + 1) e9).1 = 0) (hV : V = vlq (wk M a) (cv9 (wk M a) (nuq M a) (smx M a) s.1) (nt M (a + 7)) 0 0 (i + 1) e9) (hVl : Vl = vlq (wk M a) (cv9 (wk M a) (nuq M a) (smx M a) s.1) (nt M (a + 7)) 0 0 (k + 3) j) (hVh : Vh = vlq (wk M a) (cv9 (wk M a) (nuq M a) (smx M a) s.1) (nt M (a + 7)) 0 0 (j + 1) i) (fr : (rgf Vl Vh (nt M (a + 7) (k + 3)) (nt M (a + 7) (j + 1))).1 ≠ 0 → s'.2.2 = (rgf Vl Vh (nt M (a + 7) (k + 3)) (nt M (a + 7) (j + 1)))) (flb : (rgf Vl Vh (nt M (a + 7) (k + 3)) (nt M (a + 7) (j + 1))).1 = 0 → l6 ≠ 0 → (bef 0 Vl.2.1 Vh.2.1 (nt M (a + 7) (i + 1)) V).1 ≠ 0 → s'.2.2 = (bef 0 Vl.2.1 Vh.2.1 (nt M (a + 7) (i + 1)) V)) (good : (rgf Vl Vh (nt M (a + 7) (k + 3)) (nt M (a + 7) (j + 1))).1 = 0 → (l6 ≠ 0 → (bef 0 Vl.2.1 Vh.2.1 (nt M (a + 7) (i + 1)) V).1 = 0) → s' = (s.1 ++ [(k + 1, 3, 0, (0, 0, 1))], (W + 1, R, C, if tg = -1 then 0 else 1), (0, 0))) : h_MM_varItem_215 G (d + 7) a k W 0 i l6 lo hi j l10 M2 (fun M' => mOk M' ∧ itX M a g N e s' (gm.1 ++ [x9], gm.2) M') := by
  have hN := h.1.2.1.1.2.2
  have hg := h.1.2.2.2.2.2.1
  have hR := h.2.2.2.2.1.1
  have L2 := v2.1
  have w2 := L2.2.1.1.1
  have ik : i32 (k : Int) := i32s (by omega) (by omega)
  have iW : i32 (W : Int) := i32s (by omega) (by omega)
  have ii : i32 (i : Int) := i32s (by omega) (by omega)
  have ij : i32 (j : Int) := i32s (by omega) (by omega)
  have ilo : i32 (lo : Int) := by
    obtain ⟨-, f, e', t, t', -⟩ := cl
    have := t.tn.lt
    exact i32s (by omega) (by omega)
  have ihi : i32 (hi : Int) := by
    obtain ⟨-, f, e', t, t', -⟩ := ch
    have := t.tn.lt
    exact i32s (by omega) (by omega)
  have W12 : ((0 : Int) ≤ W ∧ (W : Int) < ((12 : Nat) : Int)) := by omega
  refine k_MM_varItem_215w L2.1 ik iW ⟨by decide, by decide⟩ ii il6 ilo ihi ij il10 ⟨w2.1.1, fun _ => ⟨fun _ => ?_, fun y => absurd rfl y⟩, fun y => absurd z16 y⟩
  rw [show mR M2 a 10 = g from L2.2.2.2.2.1, show mR M2 g 14 = g + 19 from (w2.gp hg).2.2.1.2.1, Int.toNat_natCast, show (k : Int) + 3 = ((k + 3 : Nat) : Int) by omega]
  refine ⟨(w2.gp hg).1, (x_MM_wholeOf (d := d + 2) L2 (v2.ev h.2.2.2.2 hT16) cl hk).mono (fun x1 M3 t3 => ?_)⟩
  obtain ⟨ix1, o3, E3, r3, y3, -⟩ := t3
  have y3 := y3 z16
  have w0 := h.1.2.1.1.1
  have ec : Eo (wk M a) 6 (k + 3) j := by have := cl.1; rw [(v2.sx w0).1] at this; exact this
  have eh : Eo (wk M a) 6 (j + 1) i := by have := ch.1; rw [(v2.sx w0).1] at this; exact this
  unfold whX at y3
  rw [vI.vl h hS v2 l2 ec fl1, ← hVl, (v2.sx w0).2.1] at y3
  have v3 := v2.eo E3
  have l3 := l2.trans (lst3.eo E3)
  have G3 := (E3.lc (R := R) (W := W) (C := C) (Z := Z) L2).2.2.1
  have w3 := v3.1.2.1.1.1
  refine ⟨ix1, o3, (w3.gp hg).2.2.2.2.1.2.1.1, by rw [(w3.gp hg).2.2.2.2.1.2.1.2]; exact W12, fun M4 e4 => ?_⟩
  have G4 := vst_ge (R := R) (C := C) (Z := Z) (i := 19) v3.1 ix1 (by omega) (by decide) (by decide) e4
  obtain ⟨v4, f4, a4⟩ := v3.st (i := 19) ix1 (by omega) (by decide) (by decide) e4
  have L4 := v4.1
  have w4 := L4.2.1.1.1
  have G24 := G3.trans G4
  have c4 : mI M4 (g + 19) W = x1 := by rw [f4, if_pos ⟨rfl, rfl⟩]
  have z4 : mI M4 a 16 = mI M3 a 16 := by rw [a4]
  have x4 := lst3.ui (x := 0) (i := 19) v3.1 ix1 (by omega) (by decide) (by decide) e4
  have l4 := l3.trans x4.1
  have aa4 : mI M4 a = mI M3 a := a4
  have sx24 : SXq M2 a M4 := SXq.to (v2.sx w0) (v4.sx w0)
  have p24 : ∀ n, n < T2 → pm M4 g n = pm M2 g n := fun n _ => (x4.2 n).trans (E3.pm n)
  clear f4 a4 e4
  rw [show mR M4 a 10 = g from L4.2.2.2.2.1, show mR M4 g 15 = g + 20 from (w4.gp hg).2.2.1.2.2.1, show (j : Int) + 1 = ((j + 1 : Nat) : Int) by omega]
  refine ⟨w4.1.1, (w4.gp hg).1, (x_MM_wholeOf (d := d + 2) L4 (v4.ev h.2.2.2.2 hT16) (ch.gn G24.1 hR sx24 p24) hj).mono (fun x2 M5 t5 => ?_)⟩
  obtain ⟨ix2, o5, E5, r5, y5, y5'⟩ := t5
  unfold whX at y5
  rw [vI.vl h hS v4 l4 eh fl2, ← hVh, (v4.sx w0).2.1] at y5
  have v5 := v4.eo E5
  have G5 := (E5.lc (R := R) (W := W) (C := C) (Z := Z) L4).2.2.1
  have w5 := v5.1.2.1.1.1
  refine ⟨ix2, o5, (w5.gp hg).2.2.2.2.1.2.2.1.1, by rw [(w5.gp hg).2.2.2.2.1.2.2.1.2]; exact W12, fun M6 e6 => ?_⟩
  have G6 := vst_ge (R := R) (C := C) (Z := Z) (i := 20) v5.1 ix2 (by omega) (by decide) (by decide) e6
  obtain ⟨v6, f6, a6⟩ := v5.st (i := 20) ix2 (by omega) (by decide) (by decide) e6
  have L6 := v6.1
  have w6 := L6.2.1.1.1
  have G26 := (G24.trans G5).trans G6
  have x6 := lst3.ui (x := 0) (i := 20) v5.1 ix2 (by omega) (by decide) (by decide) e6
  have l6' := (l4.trans (lst3.eo E5)).trans x6.1
  have sx26 : SXq M2 a M6 := SXq.to (v2.sx w0) (v6.sx w0)
  have p26 : ∀ n, n < T2 → pm M6 g n = pm M2 g n := fun n hn => ((x6.2 n).trans (E5.pm n)).trans (p24 n hn)
  have FA : ((fst9 (wh9 Vl (nt M (a + 7) (k + 3))) (wh9 Vh (nt M (a + 7) (j + 1)))).1 ≠ 0 ∧ fpw M6 a (fst9 (wh9 Vl (nt M (a + 7) (k + 3))) (wh9 Vh (nt M (a + 7) (j + 1))))) ∨ ((fst9 (wh9 Vl (nt M (a + 7) (k + 3))) (wh9 Vh (nt M (a + 7) (j + 1)))).1 = 0 ∧ mI M6 a 16 = 0 ∧ x1 = Vl.2.1 ∧ x2 = Vh.2.1) := by
    rcases y3 with ⟨u1, u2⟩ | ⟨u1, u2, u3⟩
    · have e5 := y5' (by rw [aa4, u2.1]; exact u1)
      rw [fst9_l u1]
      refine Or.inl ⟨u1, ?_⟩
      unfold fpw
      rw [a6, e5, aa4]
      exact u2
    · rw [fst9_r u1]
      unfold fpw
      rw [a6]
      rcases y5 (by rw [aa4]; exact u2) with ⟨q1, q2⟩ | ⟨q1, q2, q3⟩
      · exact Or.inl ⟨q1, q2⟩
      · exact Or.inr ⟨q1, q2, u3, q3⟩
  clear y3 y5 y5'
  have hin : ∀ q, q = a + 99 → q ∈ nums a := fun q hq => by rw [hq]; exact n99
  have c19 : mI M6 (g + 19) W = x1 := by
    rw [f6, if_neg (fun z => by omega), (E5.1.cellL w4 hin (goffx (i := 19) hg (by decide) (by decide)) (fun z => by
      have : g + 19 = a ∨ g + 19 = a + 97 ∨ g + 19 = a + 98 ∨ g + 19 = a + 102 ∨ g + 19 = a + 103 ∨ g + 19 = a + 104 := z
      omega)).1, c4]
  have c20 : mI M6 (g + 20) W = x2 := by rw [f6, if_pos ⟨rfl, rfl⟩]
  have z6 : mI M6 a 16 = 0 → (-1000000000 < x1 ∧ x1 < 1000000000) ∧ -1000000000 < x2 ∧ x2 < 1000000000 := fun z => by
    rw [a6] at z
    obtain ⟨y1, y2⟩ := r5 z
    rw [z4] at y1
    exact ⟨(r3 y1).2, y2⟩
  clear f6 a6 e6 r3 r5
  rw [show mR M6 a 10 = g from L6.2.2.2.2.1, show mR M6 g 14 = g + 19 from (w6.gp hg).2.2.1.2.1, show mR M6 g 15 = g + 20 from (w6.gp hg).2.2.1.2.2.1, c19, c20]
  have b14 : ((0 : Int) ≤ W ∧ (W : Int) < (mN M6 (g + 19) : Int)) := by rw [(w6.gp hg).2.2.2.2.1.2.1.2]; exact W12
  have b15 : ((0 : Int) ≤ W ∧ (W : Int) < (mN M6 (g + 20) : Int)) := by rw [(w6.gp hg).2.2.2.2.1.2.2.1.2]; exact W12
  have hf6 : l6 ≠ 0 → ∃ n : Nat, l10 = n ∧ Ctx M6 a g R W T2 (nrq M a (rvn M a K)) (i + 1) e9 n 0 := fun q => by
    obtain ⟨n, hn, ct⟩ := hf q
    exact ⟨n, hn, ct.gn G26.1 hR sx26 p26⟩
  refine ⟨w6.1.1, (w6.gp hg).1, (w6.gp hg).2.2.2.2.1.2.1.1, b14, (w6.gp hg).2.2.2.2.1.2.2.1.1, b15, fun _ => ⟨b15, b14, trivial⟩, fun v hv => ⟨fun q => ?_, fun q => ?_⟩⟩
  · refine (s_MM_place0 (d := d + 6) L6.1 L6.2.1 hj).mono (fun y M7 h7 => ?_)
    obtain ⟨e7, hy⟩ := h7
    subst e7
    have hy32 : i32 y := by rw [hy]; exact (L6.1 _ _).1
    refine ⟨hy32, L6.1, w6.1.1, (s_MM_stop ⟨by decide, by decide⟩ hy32 L6.1 w6).mono (fun M8 h8 => ?_)⟩
    have v8 := v6.sp h8
    have G8 := (v6.1.sp (R := R) (W := W) (C := C) (Z := Z) h8.1 (fun _ z => z) (fun _ z => z)).2.2.1
    have x8 := lst3.sp (g := g) hg h8
    have rz : (rgf Vl Vh (nt M (a + 7) (k + 3)) (nt M (a + 7) (j + 1))) = (9, nt M (a + 7) (j + 1)) := by
      rcases FA with ⟨u1, u2⟩ | ⟨u1, u2, u3, u4⟩
      · exact absurd (u2.1.symm.trans q.1) u1
      · have z6 := z6 q.1
        unfold rgf
        rw [fst9_r u1, if_neg]
        rw [← u3, ← u4]
        intro z
        rw [if_neg (by rw [w32_id ⟨by omega, by omega⟩]; omega)] at hv
        omega
    refine ⟨h8.1.1, x_vi369 (x9 := x9) eγ (fun z => by rw [h8.2.1] at z; exact absurd z (by decide)) h hS hW (by omega) hi' hi1 v8 (l6'.trans x8.1) hnew hTe hZe hT16 il6 il10 (Or.inl rfl) (fun z => ?_) (fun q => ?_) hfl hV (fun _ => ?_) (fun z => ?_) (fun z => ?_)⟩
    · rw [h8.2.1] at z; exact absurd z (by decide)
    · obtain ⟨n, hn, ct⟩ := hf6 q
      exact ⟨n, hn, ct.gn G8.1 hR (SXq.to (v6.sx w0) (v8.sx w0)) (fun n _ => x8.2 n)⟩
    · have := fr (by rw [rz]; simp)
      rw [this, rz]
      exact ⟨by simp, h8.2.1, by rw [h8.2.2.1, hy, (v6.sx w0).2.1]⟩
    · rw [h8.2.1] at z; exact absurd z (by decide)
    · rw [h8.2.1] at z; exact absurd z (by decide)
  · have ok6 : mI M6 a 16 = 0 → (rgf Vl Vh (nt M (a + 7) (k + 3)) (nt M (a + 7) (j + 1))).1 = 0 ∧ x1 = Vl.2.1 ∧ x2 = Vh.2.1 := fun z => by
      rcases FA with ⟨u1, u2⟩ | ⟨u1, u2, u3, u4⟩
      · exact absurd (u2.1.symm.trans z) u1
      · have z6 := z6 z
        have vn : v ≠ 0 := fun y => q ⟨z, y⟩
        refine ⟨?_, u3, u4⟩
        unfold rgf
        rw [fst9_r u1, if_pos]
        rw [← u3, ← u4]
        by_cases c : x2 < x1
        · rw [if_pos (Or.inl c)] at hv; exact absurd hv vn
        · by_cases c2 : 10000 ≤ w32 (x2 - x1)
          · rw [if_pos (Or.inr c2)] at hv; exact absurd hv vn
          · rw [w32_id ⟨by omega, by omega⟩] at c2
            exact ⟨by omega, by omega⟩
    refine x_vi369 (x9 := x9) eγ (fun z => by obtain ⟨-, o2, o3'⟩ := ok6 z; rw [c19, c20, hx9]; exact ⟨o2, o3', rfl⟩) h hS hW (by omega) hi' hi1 v6 l6' hnew hTe hZe hT16 il6 il10 (Or.inl rfl) (fun z => ?_) hf6 hfl hV (fun z => ?_) (fun z n6 => ?_) (fun z n6 => ?_)
    · have z6 := z6 z
      rw [c19, c20]
      have vn : v ≠ 0 := fun y => q ⟨z, y⟩
      clear hf hf6 q
      refine ⟨fun y => absurd rfl y, ?_, z6.1.1, z6.2.2⟩
      split at hv
      · exact absurd hv vn
      · omega
    · rcases FA with ⟨u1, u2⟩ | ⟨u1, u2, u3, u4⟩
      · have rz : (rgf Vl Vh (nt M (a + 7) (k + 3)) (nt M (a + 7) (j + 1))) = fst9 (wh9 Vl (nt M (a + 7) (k + 3))) (wh9 Vh (nt M (a + 7) (j + 1))) := fst9_l u1
        rw [fr (by rw [rz]; exact u1), rz]
        exact ⟨u1, u2⟩
      · exact absurd u2 z
    · obtain ⟨o1, o2, o3'⟩ := ok6 z
      rw [c19, c20, o2, o3']
      exact flb o1 n6
    · obtain ⟨o1, o2, o3'⟩ := ok6 z
      rw [c19, c20, o2, o3'] at n6
      exact good o1 n6
end VXC
end
section
/-! The reference's vars, exactly. -/
section VXP
variable {w pl nq : Nat → Int} {sm : Nat → Nat → Prop} {nms : List nm9} {k e rg ini N : Nat} {s : st9}
theorem rf9_fl {co tr : Int} {i j : Nat} (h : (rf9 w pl sm nms co tr i j).1 = 0) : (fl w (E9 sm nms co) pl 0 i j).1 = 0 := by
  unfold rf9 at h
  exact (fst9_z h).1
theorem vf9_b (h5 : w (k + 3) = 5) : vf9 w pl sm nms k e rg ini = fst9 (if w ini = 9 then rf9 w pl sm nms 1 1 (ini + 1) e else (0, 0)) (0, 0) := by
  unfold vf9
  rw [if_pos h5, if_pos h5, fst9_r (x := ((0 : Int), (0 : Int))) rfl]
theorem vw9_b (h5 : w (k + 3) = 5) : vw9 w pl nq sm nms k e rg ini = if w ini = 9 then wh9 (vlq w (cv9 w nq sm nms) pl 0 0 (ini + 1) e) (pl (ini + 1)) else (0, 0) := by
  unfold vw9
  simp only []
  rw [if_pos h5, fst9_r (x := ((0 : Int), (0 : Int))) rfl, if_pos h5]
theorem vf9_n (h5 : w (k + 3) ≠ 5) : vf9 w pl sm nms k e rg ini = fst9 (fst9 (fst9 (rf9 w pl sm nms 1 0 (k + 3) rg) (rf9 w pl sm nms 1 0 (rg + 1) ini)) (if w ini = 9 then rf9 w pl sm nms 1 0 (ini + 1) e else (0, 0))) (0, 0) := by
  unfold vf9
  rw [if_neg h5, if_neg h5]
theorem vw9_n (h5 : w (k + 3) ≠ 5) : vw9 w pl nq sm nms k e rg ini = fst9 (rgf (vlq w (cv9 w nq sm nms) pl 0 0 (k + 3) rg) (vlq w (cv9 w nq sm nms) pl 0 0 (rg + 1) ini) (pl (k + 3)) (pl (rg + 1))) (if w ini = 9 then bef 0 (vlq w (cv9 w nq sm nms) pl 0 0 (k + 3) rg).2.1 (vlq w (cv9 w nq sm nms) pl 0 0 (rg + 1) ini).2.1 (pl (ini + 1)) (vlq w (cv9 w nq sm nms) pl 0 0 (ini + 1) e) else (0, 0)) := by
  unfold vw9 rgf bef
  simp only []
  rw [if_neg h5, if_neg h5, if_neg (show ¬ ((0 : Int) ≠ 0) by decide)]
theorem itv_many (h : s.2.1.1 = 12) : (itv w pl nq sm N k e s).2.2 = (5, pl k) := by
  unfold itv
  rw [if_pos h]
theorem itv_known (h : s.2.1.1 ≠ 12) (h2 : fnd9 sm s.1 (k + 1) ≠ none) : (itv w pl nq sm N k e s).2.2 = (2, pl (k + 1)) := by
  unfold itv
  rw [if_neg h, if_pos h2]
theorem itv_f (h : s.2.1.1 ≠ 12) (h2 : fnd9 sm s.1 (k + 1) = none) (hr : nxq w 16 N (k + 3) = rg) (hi : (if w (k + 3) = 5 then k + 4 else nxq w 9 (e - (k + 3)) (k + 3)) = ini) (h3 : (vf9 w pl sm s.1 k e rg ini).1 ≠ 0) : (itv w pl nq sm N k e s).2.2 = vf9 w pl sm s.1 k e rg ini := by
  unfold itv
  simp only [hr, hi]
  rw [if_neg h, if_neg (fun z => z h2), if_pos h3]
theorem itv_w (h : s.2.1.1 ≠ 12) (h2 : fnd9 sm s.1 (k + 1) = none) (hr : nxq w 16 N (k + 3) = rg) (hi : (if w (k + 3) = 5 then k + 4 else nxq w 9 (e - (k + 3)) (k + 3)) = ini) (h3 : (vf9 w pl sm s.1 k e rg ini).1 = 0) (h4 : (vw9 w pl nq sm s.1 k e rg ini).1 ≠ 0) : (itv w pl nq sm N k e s).2.2 = vw9 w pl nq sm s.1 k e rg ini := by
  unfold itv
  simp only [hr, hi]
  rw [if_neg h, if_neg (fun z => z h2), if_neg (fun z => z h3), if_pos h4]
theorem itv_ok (h : s.2.1.1 ≠ 12) (h2 : fnd9 sm s.1 (k + 1) = none) (hr : nxq w 16 N (k + 3) = rg) (hi : (if w (k + 3) = 5 then k + 4 else nxq w 9 (e - (k + 3)) (k + 3)) = ini) (h3 : (vf9 w pl sm s.1 k e rg ini).1 = 0) (h4 : (vw9 w pl nq sm s.1 k e rg ini).1 = 0) : itv w pl nq sm N k e s = (s.1 ++ [(k + 1, 3, (if w (k + 3) = 5 then 1 else 0), (0, 0, 1))], (s.2.1.1 + 1, s.2.1.2), (0, 0)) := by
  unfold itv
  simp only [hr, hi]
  rw [if_neg h, if_neg (fun z => z h2), if_neg (fun z => z h3), if_neg (fun z => z h4)]
end VXP
section VXD
variable {G : mG} {d a g R W C Z T T2 N K : Nat} {M M2 : mM} {E : Eg9} {tg : Int} {s s' : st9}
theorem x_vi185 {gm : gm9} {x9 : Int × Int × Int} {k e i j lo hi : Nat} {l6 : Int} {V Vl Vh : vrs} (eγ : E.2 = txg M a N s.1 gm) (hx9 : x9 = (Vl.2.1, Vh.2.1, if l6 ≠ 0 then V.2.1 else Vl.2.1)) (h : Df M a g N T K R W C Z E tg) (hS : RSq M a g K s.1) (hW : W < 12) (hk : k + 3 < N) (hie : i ≤ e) (heN : e < N) (hj : j + 1 < N) (hki : k ≤ i) (hZ : Z ≤ k) (v2 : vI M a g N T K R W C Z 0 T2 M2) (l2 : lst3 M a M2) (hnew : fdn M a K (k + 1) = -1) (hT2 : T2 ≤ i) (c6 : l6 = 0 ∨ l6 = 1) (z16 : mI M2 a 16 = 0) (cl : Ctx M2 a g R W T2 (nrq M a (rvn M a K)) (k + 3) j lo 0) (ch : Ctx M2 a g R W T2 (nrq M a (rvn M a K)) (j + 1) i hi 0) (fl1 : (fl (wk M a) (E9 (smx M a) s.1 1) (nt M (a + 7)) 0 (k + 3) j).1 = 0) (fl2 : (fl (wk M a) (E9 (smx M a) s.1 1) (nt M (a + 7)) 0 (j + 1) i).1 = 0) (h9 : l6 ≠ 0 → Eo (wk M a) 6 (i + 1) e) (hV : V = vlq (wk M a) (cv9 (wk M a) (nuq M a) (smx M a) s.1) (nt M (a + 7)) 0 0 (i + 1) e) (hVl : Vl = vlq (wk M a) (cv9 (wk M a) (nuq M a) (smx M a) s.1) (nt M (a + 7)) 0 0 (k + 3) j) (hVh : Vh = vlq (wk M a) (cv9 (wk M a) (nuq M a) (smx M a) s.1) (nt M (a + 7)) 0 0 (j + 1) i) (gf : l6 ≠ 0 → (rf9 (wk M a) (nt M (a + 7)) (smx M a) s.1 1 0 (i + 1) e).1 ≠ 0 → s'.2.2 = (rf9 (wk M a) (nt M (a + 7)) (smx M a) s.1 1 0 (i + 1) e)) (fr : (l6 ≠ 0 → (rf9 (wk M a) (nt M (a + 7)) (smx M a) s.1 1 0 (i + 1) e).1 = 0) → (rgf Vl Vh (nt M (a + 7) (k + 3)) (nt M (a + 7) (j + 1))).1 ≠ 0 → s'.2.2 = (rgf Vl Vh (nt M (a + 7) (k + 3)) (nt M (a + 7) (j + 1)))) (flb : (l6 ≠ 0 → (rf9 (wk M a) (nt M (a + 7)) (smx M a) s.1 1 0 (i + 1) e).1 = 0) → (rgf Vl Vh (nt M (a + 7) (k + 3)) (nt M (a + 7) (j + 1))).1 = 0 → l6 ≠ 0 → (bef 0 Vl.2.1 Vh.2.1 (nt M (a + 7) (i + 1)) V).1 ≠ 0 → s'.2.2 = (bef 0 Vl.2.1 Vh.2.1 (nt M (a + 7) (i + 1)) V)) (good : (l6 ≠ 0 → (rf9 (wk M a) (nt M (a + 7)) (smx M a) s.1 1 0 (i + 1) e).1 = 0) → (rgf Vl Vh (nt M (a + 7) (k + 3)) (nt M (a + 7) (j + 1))).1 = 0 → (l6 ≠ 0 → (bef 0 Vl.2.1 Vh.2.1 (nt M (a + 7) (i + 1)) V).1 = 0) → s' = (s.1 ++ [(k + 1, 3, 0, (0, 0, 1))], (W + 1, R, C, if tg = -1 then 0 else 1), (0, 0))) : h_MM_varItem_185 G (d + 7) a k e W 0 i l6 lo j hi M2 (fun M' => mOk M' ∧ itX M a g N (e + 1) s' (gm.1 ++ [x9], gm.2) M') := by
  have hN := h.1.2.1.1.2.2
  have hg := h.1.2.2.2.2.2.1
  have hR := h.2.2.2.2.1.1
  have L2 := v2.1
  have w2 := L2.2.1.1.1
  have iz : i32 (0 : Int) := ⟨by decide, by decide⟩
  have im : i32 (-1 : Int) := ⟨by decide, by decide⟩
  have ik : i32 (k : Int) := i32s (by omega) (by omega)
  have iW : i32 (W : Int) := i32s (by omega) (by omega)
  have ii : i32 (i : Int) := i32s (by omega) (by omega)
  have ij : i32 (j : Int) := i32s (by omega) (by omega)
  have ie : i32 (e : Int) := i32s (by omega) (by omega)
  have i6 : i32 l6 := i32s (by omega) (by omega)
  have ilo : i32 (lo : Int) := by
    obtain ⟨-, f, e', t, t', -⟩ := cl
    have := t.tn.lt
    exact i32s (by omega) (by omega)
  have ihi : i32 (hi : Int) := by
    obtain ⟨-, f, e', t, t', -⟩ := ch
    have := t.tn.lt
    exact i32s (by omega) (by omega)
  have hiN : i < N := by omega
  refine k_MM_varItem_185 L2.1 ik ie iW iz ii i6 ilo ij ihi ⟨fun _ => w2.1.1, fun q => ?_, fun q => ⟨w2.1.1, ?_⟩⟩
  · have z6 : l6 = 0 := q.elim (fun z => z) (fun z => absurd z16 z)
    have n6 : l6 ≠ 0 → (rf9 (wk M a) (nt M (a + 7)) (smx M a) s.1 1 0 (i + 1) e).1 = 0 := fun z => absurd z6 z
    exact x_vi215n (e9 := e) eγ hx9 h hS hW hk hiN (fun z => absurd z6 z) hj v2 l2 hnew (by omega) (by omega) (by omega) i6 im z16 cl ch fl1 fl2 (fun z => absurd z6 z) (fun z => absurd z6 z) hV hVl hVh (fr n6) (flb n6) (good n6)
  · have n6 : l6 ≠ 0 := fun z => q (Or.inl z)
    have eo := h9 n6
    have hlt := eo.pr.1
    rw [show (i : Int) + 1 = ((i + 1 : Nat) : Int) by omega]
    refine x_vrule (d := d) h hS v2 l2 z16 (Or.inl rfl) (by omega) eo heN (fun M3 T3 L3 I3 z3 rz rf => ?_) (fun M3 T3 t1 t2 v3 l3 z3 rz ct f3 => ?_)
    · refine ⟨i32s (by omega) (by omega), L3.1, x_vi215x L3 I3 z3 ?_ ik iW iz ii i6 ilo ihi ij (i32s (by omega) (by omega))⟩
      rw [gf n6 rz]
      exact ⟨rz, rf⟩
    · obtain ⟨G3, sx3, p3⟩ := f3
      have hT := Nat.le_of_lt t1
      exact ⟨i32s (by omega) (by omega), v3.1.1, x_vi215n (e9 := e) eγ hx9 h hS hW hk hiN (fun _ => by omega) hj v3 l3 hnew (by omega) (by omega) (by omega) i6 (i32s (by omega) (by omega)) z3 ((cl.gn G3.1 hR sx3 p3).up hT) ((ch.gn G3.1 hR sx3 p3).up hT) fl1 fl2 (fun _ => ⟨T2, rfl, ct⟩) (fun _ => ⟨eo, rf9_fl rz⟩) hV hVl hVh (fr (fun _ => rz)) (flb (fun _ => rz)) (good (fun _ => rz))⟩
theorem x_vi91 {gm : gm9} {x9 : Int × Int × Int} {k e i j : Nat} {bl : Int} (eγ : E.2 = txg M a N s.1 gm) (hx9 : x9 = (if wk M a (k + 3) = 5 then 0 else (vlq (wk M a) (cv9 (wk M a) (nuq M a) (smx M a) s.1) (nt M (a + 7)) 0 0 (k + 3) j).2.1, if wk M a (k + 3) = 5 then 1 else (vlq (wk M a) (cv9 (wk M a) (nuq M a) (smx M a) s.1) (nt M (a + 7)) 0 0 (j + 1) i).2.1, if wk M a i = 9 then (vlq (wk M a) (cv9 (wk M a) (nuq M a) (smx M a) s.1) (nt M (a + 7)) 0 0 (i + 1) e).2.1 else if wk M a (k + 3) = 5 then 0 else (vlq (wk M a) (cv9 (wk M a) (nuq M a) (smx M a) s.1) (nt M (a + 7)) 0 0 (k + 3) j).2.1)) (h : Df M a g N T K R W C Z E tg) (hS : RSq M a g K s.1) (h16 : mI M a 16 = 0) (hW : W < 12) (hnew : fdn M a K (k + 1) = -1) (heN : e < N) (hT : T ≤ k) (hZ : Z ≤ k) (hb : (bl = 1 ∧ wk M a (k + 3) = 5 ∧ i = k + 4) ∨ (bl = 0 ∧ wk M a (k + 3) ≠ 5 ∧ Eo (wk M a) 6 (k + 3) j ∧ wk M a j = 16 ∧ Eo (wk M a) 6 (j + 1) i)) (hi : (wk M a i ≠ 9 ∧ i = e) ∨ (wk M a i = 9 ∧ Eo (wk M a) 6 (i + 1) e)) (e1 : (vf9 (wk M a) (nt M (a + 7)) (smx M a) s.1 k e j i).1 ≠ 0 → s'.2.2 = (vf9 (wk M a) (nt M (a + 7)) (smx M a) s.1 k e j i)) (e2 : (vf9 (wk M a) (nt M (a + 7)) (smx M a) s.1 k e j i).1 = 0 → (vw9 (wk M a) (nt M (a + 7)) (nuq M a) (smx M a) s.1 k e j i).1 ≠ 0 → s'.2.2 = (vw9 (wk M a) (nt M (a + 7)) (nuq M a) (smx M a) s.1 k e j i)) (e3 : (vf9 (wk M a) (nt M (a + 7)) (smx M a) s.1 k e j i).1 = 0 → (vw9 (wk M a) (nt M (a + 7)) (nuq M a) (smx M a) s.1 k e j i).1 = 0 → s' = (s.1 ++ [(k + 1, 3, bl, (0, 0, 1))], (W + 1, R, C, if tg = -1 then 0 else 1), (0, 0))) : h_MM_varItem_91 G (d + 7) a k e W bl i M (fun M' => mOk M' ∧ itX M a g N (e + 1) s' (gm.1 ++ [x9], gm.2) M') := by
  have hN := h.1.2.1.1.2.2
  have hg := h.1.2.2.2.2.2.1
  have hR := h.2.2.2.2.1.1
  have hL := h.1
  have w := hL.2.1.1.1
  have hie : i ≤ e := by
    rcases hi with ⟨-, z⟩ | ⟨-, z⟩
    · omega
    · have := z.pr.1; omega
  have hki : k + 4 ≤ i := by
    rcases hb with ⟨-, -, z⟩ | ⟨-, -, z1, -, z2⟩
    · omega
    · have := z1.pr.1; have := z2.pr.1; omega
  have h9 : wk M a i = 9 → Eo (wk M a) 6 (i + 1) e := fun z => by
    rcases hi with ⟨y, -⟩ | ⟨-, y⟩
    · exact absurd z y
    · exact y
  have bl01 : bl = 0 ∨ bl = 1 := by
    rcases hb with ⟨z, -⟩ | ⟨z, -⟩
    · exact Or.inr z
    · exact Or.inl z
  have iz : i32 (0 : Int) := ⟨by decide, by decide⟩
  have im : i32 (-1 : Int) := ⟨by decide, by decide⟩
  have ik : i32 (k : Int) := i32s (by omega) (by omega)
  have iW : i32 (W : Int) := i32s (by omega) (by omega)
  have ii : i32 (i : Int) := i32s (by omega) (by omega)
  have ie : i32 (e : Int) := i32s (by omega) (by omega)
  have ib : i32 bl := by rcases bl01 with z | z <;> rw [z] <;> exact ⟨by decide, by decide⟩
  have W12 : ((0 : Int) ≤ W ∧ (W : Int) < ((12 : Nat) : Int)) := by omega
  have hiN : i < N := by omega
  have hkN : k + 3 < N := by omega
  have hZe : Z ≤ e + 1 := by omega
  clear hi
  refine k_MM_varItem_91 hL.1 ik ie iW ib ii ⟨w.1.1, hL.wd (d := d + 6) hiN (fun x hx ix => ⟨ix, hL.1, fun v hv => ⟨w.1.1, ?_⟩⟩)⟩
  rw [show mR M a 10 = g from hL.2.2.2.2.1, show mR M g 13 = g + 18 from (w.gp hg).2.2.1.1, Int.toNat_natCast]
  refine ⟨(w.gp hg).1, (w.gp hg).2.2.2.2.1.1.1, by rw [(w.gp hg).2.2.2.2.1.1.2]; exact W12, bl01, fun M2 e0 => ?_⟩
  obtain ⟨v2, a2⟩ := vI.new h bl01 e0
  have l2 : lst3 M a M2 := (lst3.ui (x := 0) (i := 18) hL ib (by omega) (by decide) (by decide) e0).1
  have L2 := v2.1
  have w2 := L2.2.1.1.1
  have wkE := v2.2.1.wk hg
  have z2 : mI M2 a 16 = 0 := by rw [a2]; exact h16
  have v01 : v = 0 ∨ v = 1 := by split at hv <;> omega
  have v9 : v ≠ 0 → Eo (wk M a) 6 (i + 1) e := fun z => h9 (by
    split at hv
    · rename_i y; exact hx.symm.trans y
    · exact absurd hv z)
  have w9 : v ≠ 0 → wk M a i = 9 := fun z => by
    split at hv
    · rename_i y; exact hx.symm.trans y
    · exact absurd hv z
  have w0 : v = 0 → wk M a i ≠ 9 := fun z y => by
    rw [if_pos (hx.trans y)] at hv
    omega
  have i6 : i32 v := by rcases v01 with z | z <;> rw [z] <;> exact ⟨by decide, by decide⟩
  clear hv hx h9 e0
  rcases hb with ⟨z, h5, -⟩ | ⟨z, h5, j1, j2, j3⟩
  · subst z
    refine ⟨fun y => absurd y (by decide), fun _ => ⟨fun q => ?_, fun q => ?_⟩⟩
    · have z6 : v = 0 := q.elim (fun z => z) (fun z => absurd z2 z)
      have n9 := w0 z6
      exact x_vi215b (e9 := e) eγ (by rw [hx9, if_pos h5, if_pos h5, if_neg n9, if_neg (fun u => u z6)]) h hS hW hkN hiN (fun z => absurd z6 z) v2 l2 hnew (by omega) hZe (by omega) i6 im z2 (fun z => absurd z6 z) (fun z => absurd z6 z) rfl (fun z => absurd z6 z) (fun _ => e3 (by rw [vf9_b h5, if_neg n9]; rfl) (by rw [vw9_b h5, if_neg n9]))
    · have n6 : v ≠ 0 := fun z => q (Or.inl z)
      have y9 := w9 n6
      have eo := v9 n6
      have hlt := eo.pr.1
      have vb : (vf9 (wk M a) (nt M (a + 7)) (smx M a) s.1 k e j i) = fst9 (rf9 (wk M a) (nt M (a + 7)) (smx M a) s.1 1 1 (i + 1) e) (0, 0) := by rw [vf9_b h5, if_pos y9]
      have vc : (vw9 (wk M a) (nt M (a + 7)) (nuq M a) (smx M a) s.1 k e j i) = wh9 (vlq (wk M a) (cv9 (wk M a) (nuq M a) (smx M a) s.1) (nt M (a + 7)) 0 0 (i + 1) e) (nt M (a + 7) (i + 1)) := by rw [vw9_b h5, if_pos y9]
      rw [show (i : Int) + 1 = ((i + 1 : Nat) : Int) by omega]
      refine x_vrule (d := d) h hS v2 l2 z2 (Or.inr rfl) (by omega) eo heN (fun M3 T3 L3 I3 z3 rz rf => ?_) (fun M3 T3 t1 t2 v3 l3 z3 rz ct f3 => ?_)
      · refine ⟨i32s (by omega) (by omega), L3.1, x_vi215x L3 I3 z3 ?_ ik iW ⟨by decide, by decide⟩ ii i6 im im (i32s (by omega) (by omega)) (i32s (by omega) (by omega))⟩
        rw [e1 (by rw [vb, fst9_l rz]; exact rz), vb, fst9_l rz]
        exact ⟨rz, rf⟩
      · have vz : (vf9 (wk M a) (nt M (a + 7)) (smx M a) s.1 k e j i).1 = 0 := by rw [vb, fst9_r rz]
        rw [vc] at e2 e3
        exact ⟨i32s (by omega) (by omega), v3.1.1, x_vi215b (e9 := e) eγ (by rw [hx9, if_pos h5, if_pos h5, if_pos y9, if_pos n6]) h hS hW hkN hiN (fun _ => by omega) v3 l3 hnew (by omega) hZe (by omega) i6 (i32s (by omega) (by omega)) z3 (fun _ => ⟨T, rfl, ct⟩) (fun _ => ⟨eo, rf9_fl rz⟩) rfl (fun _ => e2 vz) (fun z => e3 vz (z n6))⟩
  · subst z
    have p1 := j1.pr.1
    have p3 := j3.pr.1
    have hjN : j < N := by omega
    rw [vf9_n h5] at e1 e2 e3
    rw [vw9_n h5] at e2 e3
    refine ⟨fun _ => ?_, fun y => absurd rfl y⟩
    rw [show (k : Int) + 3 = ((k + 3 : Nat) : Int) by omega]
    refine L2.ub (d := d + 5) (by omega) (by rw [wkE]; exact j1.pr.2.2.2.2.1) hjN (by rw [wkE]; exact j2) (Or.inl rfl) ⟨i32s (by omega) (by omega), L2.1, w2.1.1, ?_⟩
    have iT : i32 (T : Int) := i32s (by omega) (by omega)
    have ij : i32 (j : Int) := i32s (by omega) (by omega)
    refine x_vrule (d := d) h hS v2 l2 z2 (Or.inl rfl) (by omega) j1 hjN (fun M3 T3 L3 I3 z3 rz rf => ?_) (fun M3 T3 t1 t2 v3 l3 z3 rz cl f3 => ?_)
    · refine ⟨iT, L3.1, L3.2.1.1.1.1.1, fun z => absurd z z3, fun _ => x_vi185x L3 I3 z3 ?_ ik ie iW iz ii i6 iT ij im⟩
      rw [fst9_l (x := rf9 (wk M a) (nt M (a + 7)) (smx M a) s.1 1 0 (k + 3) j) rz, fst9_l rz, fst9_l rz] at e1
      rw [e1 rz]
      exact ⟨rz, rf⟩
    rw [fst9_r (x := rf9 (wk M a) (nt M (a + 7)) (smx M a) s.1 1 0 (k + 3) j) rz] at e1 e2 e3
    have L3 := v3.1
    refine ⟨iT, L3.1, L3.2.1.1.1.1.1, fun _ => ?_, fun z => absurd z3 z⟩
    rw [show (j : Int) + 1 = ((j + 1 : Nat) : Int) by omega]
    have iT3 : i32 (T3 : Int) := i32s (by omega) (by omega)
    refine x_vrule (d := d) h hS v3 l3 z3 (Or.inl rfl) (by omega) j3 hiN (fun M4 T4 L4 I4 z4 ry rf => ?_) (fun M4 T4 u1 u2 v4 l4 z4 ry ch f4 => ?_)
    · refine ⟨iT3, L4.1, x_vi185x L4 I4 z4 ?_ ik ie iW iz ii i6 iT ij iT3⟩
      rw [fst9_l (x := rf9 (wk M a) (nt M (a + 7)) (smx M a) s.1 1 0 (j + 1) i) ry, fst9_l ry] at e1
      rw [e1 ry]
      exact ⟨ry, rf⟩
    rw [fst9_r (x := rf9 (wk M a) (nt M (a + 7)) (smx M a) s.1 1 0 (j + 1) i) ry] at e1 e2 e3
    obtain ⟨G4, sx4, p4⟩ := f4
    have hx9' : x9 = ((vlq (wk M a) (cv9 (wk M a) (nuq M a) (smx M a) s.1) (nt M (a + 7)) 0 0 (k + 3) j).2.1, (vlq (wk M a) (cv9 (wk M a) (nuq M a) (smx M a) s.1) (nt M (a + 7)) 0 0 (j + 1) i).2.1, if v ≠ 0 then (vlq (wk M a) (cv9 (wk M a) (nuq M a) (smx M a) s.1) (nt M (a + 7)) 0 0 (i + 1) e).2.1 else (vlq (wk M a) (cv9 (wk M a) (nuq M a) (smx M a) s.1) (nt M (a + 7)) 0 0 (k + 3) j).2.1) := by
      rw [hx9, if_neg h5, if_neg h5]
      by_cases c : wk M a i = 9
      · rw [if_pos c, if_pos (fun y => w0 y c)]
      · rw [if_neg c, if_neg (fun y => c (w9 y))]
    refine ⟨iT3, v4.1.1, x_vi185 eγ hx9' h hS hW hkN hie heN (by omega) (by omega) hZ v4 l4 hnew (by omega) v01 z4 ((cl.gn G4.1 hR sx4 p4).up (Nat.le_of_lt u1)) ch (rf9_fl rz) (rf9_fl ry) v9 rfl rfl rfl (fun n6 fz => ?_) (fun n6 fz => ?_) (fun n6 rz bz => ?_) (fun n6 rz bz => ?_)⟩
    · rw [if_pos (w9 n6), fst9_l fz] at e1
      exact e1 fz
    · have vz : (fst9 (if wk M a i = 9 then (rf9 (wk M a) (nt M (a + 7)) (smx M a) s.1 1 0 (i + 1) e) else (0, 0)) (0, 0)).1 = 0 := by
        by_cases c : wk M a i = 9
        · have : v ≠ 0 := fun y => w0 y c
          rw [if_pos c, fst9_r (n6 this)]
        · rw [if_neg c]; rfl
      have := e2 vz
      rw [fst9_l fz] at this
      exact this fz
    · have vz : (fst9 (if wk M a i = 9 then (rf9 (wk M a) (nt M (a + 7)) (smx M a) s.1 1 0 (i + 1) e) else (0, 0)) (0, 0)).1 = 0 := by
        by_cases c : wk M a i = 9
        · have : v ≠ 0 := fun y => w0 y c
          rw [if_pos c, fst9_r (n6 this)]
        · rw [if_neg c]; rfl
      have := e2 vz
      rw [fst9_r rz, if_pos (w9 bz)] at this
      exact this
    · have vz : (fst9 (if wk M a i = 9 then (rf9 (wk M a) (nt M (a + 7)) (smx M a) s.1 1 0 (i + 1) e) else (0, 0)) (0, 0)).1 = 0 := by
        by_cases c : wk M a i = 9
        · have : v ≠ 0 := fun y => w0 y c
          rw [if_pos c, fst9_r (n6 this)]
        · rw [if_neg c]; rfl
      refine e3 vz ?_
      rw [fst9_r rz]
      by_cases c : wk M a i = 9
      · rw [if_pos c]; exact bz (fun y => w0 y c)
      · rw [if_neg c]
theorem x_MM_varItem {gm : gm9} {k e i : Nat} (eγ : E.2 = txg M a N s.1 gm) (h : Df M a g N T K R W C Z E tg) (hS : RSq M a g K s.1) (hst : s.2.1 = (W, R, C, if tg = -1 then 0 else 1)) (h16 : mI M a 16 = 0) (heN : e < N) (hT : T ≤ k) (hZ : Z ≤ k) (hv : Vs (wk M a) (k + 3) i) (hi : (wk M a i ≠ 9 ∧ i = e) ∨ (wk M a i = 9 ∧ Eo (wk M a) 6 (i + 1) e)) : Cv G y_MM_varItem (d + 8) [vr a, vi k, vi e] M (fun M' => mOk M' ∧ itX M a g N (e + 1) (itv (wk M a) (nt M (a + 7)) (nuq M a) (smx M a) N k e s) (gm.1 ++ [var9 (wk M a) (nt M (a + 7)) (nuq M a) (smx M a) N s.1 k e], gm.2) M') := by
  generalize es : itv (wk M a) (nt M (a + 7)) (nuq M a) (smx M a) N k e s = s'
  have hN := h.1.2.1.1.2.2
  have hg := h.1.2.2.2.2.2.1
  have hBd := h.2.2.2.2.1
  have hL := h.1
  have w := hL.2.1.1.1
  have g12 := h.2.1.2.1
  have hie : i ≤ e := by
    rcases hi with ⟨-, z⟩ | ⟨-, z⟩
    · omega
    · have := z.pr.1; omega
  have hki : k + 4 ≤ i := by
    rcases hv with ⟨-, z⟩ | ⟨-, j, z1, -, z2⟩
    · omega
    · have := z1.pr.1; have := z2.pr.1; omega
  have hlast : i = e ∨ wk M a i = 9 := hi.elim (fun z => Or.inl z.2) (fun z => Or.inr z.1)
  have n9 : wk M a (k + 3) ≠ 5 → ∀ m, k + 3 ≤ m → m < i → wk M a m ≠ 9 := fun z m m1 m2 => by
    rcases hv with ⟨y, -⟩ | ⟨-, j, z1, z2, z3⟩
    · exact absurd y z
    · by_cases q : m < j
      · have := rwd_all z1 m1 q; unfold rwd at this; omega
      · by_cases q2 : m = j
        · rw [q2, z2]; decide
        · have := rwd_all z3 (show j + 1 ≤ m by omega) m2; unfold rwd at this; omega
  have iW : i32 (W : Int) := i32s (by omega) (by omega)
  refine k_MM_varItem hL.1 (i32s (by omega) (by omega)) (i32s (by omega) (by omega)) ⟨w.1.1, ?_⟩
  rw [show mR M a 10 = g from hL.2.2.2.2.1, g12, show (k : Int) + 1 = ((k + 1 : Nat) : Int) by omega]
  refine ⟨(w.gp hg).1, fun q => x_st_it (d := d + 6) (c := 5) (by decide) ⟨by decide, by decide⟩ hL (by omega) (by rw [← es]; exact itv_many (by rw [hst]; show W = 12; omega)), fun q => ?_⟩
  have hW : W < 12 := by omega
  have n12 : s.2.1.1 ≠ 12 := by rw [hst]; show W ≠ 12; omega
  have hK : K ≤ 200 := hL.2.2.1.2.2.2.1
  refine hL.fdx (d := d + 4) (by omega) (fun r r0 r1 rf => ⟨i32s (by omega) (by omega), hL.1, fun q2 => ⟨w.1.1, ?_⟩, fun q2 => ⟨w.1.1, x_st_it (d := d + 6) (c := 2) (by decide) ⟨by decide, by decide⟩ hL (by omega) (by rw [← es]; exact itv_known n12 ((hS.kw rf).2 (by omega)))⟩⟩)
  have hnone := (hS.kw rf).1 (by omega)
  have hnew : fdn M a K (k + 1) = -1 := by rw [← fdn_un rf]; omega
  have hini : (if wk M a (k + 3) = 5 then k + 4 else nxq (wk M a) 9 (e - (k + 3)) (k + 3)) = i := by
    by_cases c : wk M a (k + 3) = 5
    · rw [if_pos c]
      rcases hv with ⟨-, y⟩ | ⟨y, -⟩
      · omega
      · exact absurd c y
    · rw [if_neg c]
      have n9 := n9 c
      rcases hi with ⟨y, z⟩ | ⟨y, -⟩
      · rw [nxq_no (fun m m1 m2 => n9 m m1 (by omega))]; omega
      · exact nxq_at (by omega) (by omega) y (fun m m1 m2 => n9 m m1 m2)
  have hx9 : var9 (wk M a) (nt M (a + 7)) (nuq M a) (smx M a) N s.1 k e = (if wk M a (k + 3) = 5 then 0 else (vlq (wk M a) (cv9 (wk M a) (nuq M a) (smx M a) s.1) (nt M (a + 7)) 0 0 (k + 3) (nxq (wk M a) 16 N (k + 3))).2.1, if wk M a (k + 3) = 5 then 1 else (vlq (wk M a) (cv9 (wk M a) (nuq M a) (smx M a) s.1) (nt M (a + 7)) 0 0 (nxq (wk M a) 16 N (k + 3) + 1) i).2.1, if wk M a i = 9 then (vlq (wk M a) (cv9 (wk M a) (nuq M a) (smx M a) s.1) (nt M (a + 7)) 0 0 (i + 1) e).2.1 else if wk M a (k + 3) = 5 then 0 else (vlq (wk M a) (cv9 (wk M a) (nuq M a) (smx M a) s.1) (nt M (a + 7)) 0 0 (k + 3) (nxq (wk M a) 16 N (k + 3))).2.1) := by
    unfold var9
    simp only [hini]
  have e1 := fun z => (itv_f (nq := nuq M a) n12 hnone rfl hini z).symm.trans (by rw [es])
  have e2 := fun z y => (itv_w (nq := nuq M a) n12 hnone rfl hini z y).symm.trans (by rw [es])
  have e3 := fun z y => es.symm.trans (itv_ok (nq := nuq M a) n12 hnone rfl hini z y)
  rw [hst] at e3
  rw [show mR M a 10 = g from hL.2.2.2.2.1, g12, show (k : Int) + 3 = ((k + 3 : Nat) : Int) by omega]
  refine ⟨(w.gp hg).1, hL.wd (d := d + 6) (by omega) (fun x hx ix => ⟨ix, hL.1, fun v hv' => ⟨fun z => ⟨w.1.1, ?_⟩, fun z => ?_⟩⟩)⟩
  · have x5 : wk M a (k + 3) ≠ 5 := fun y => by
      rw [if_pos (hx.trans y)] at hv'
      omega
    subst z
    refine hL.io (d := d + 5) (by omega) hie heN (n9 x5) hlast ⟨i32s (by omega) (by omega), hL.1, x_vi91 eγ hx9 h hS h16 hW hnew heN hT hZ (Or.inr ⟨rfl, x5, ?_⟩) hi (fun z => (e1 z).symm) (fun z y => (e2 z y).symm) (fun z y => by rw [e3 z y, if_neg x5])⟩
    rcases hv with ⟨y, -⟩ | ⟨-, j, z1, z2, z3⟩
    · exact absurd y x5
    · have p1 := z1.pr.1
      have p3 := z3.pr.1
      rw [nxq_at (w := wk M a) (x := 16) (f := N) (k := k + 3) (e := j) (by omega) (by omega) z2 (fun m m1 m2 => by
        have := rwd_all z1 m1 m2
        unfold rwd at this
        omega)]
      exact ⟨z1, z2, z3⟩
  · have x5 : wk M a (k + 3) = 5 := by
      split at hv'
      · rename_i y; exact hx.symm.trans y
      · exact absurd hv' z
    have i4 : i = k + 4 := by
      rcases hv with ⟨-, y⟩ | ⟨y, -⟩
      · omega
      · exact absurd x5 y
    have v1 : v = 1 := by rw [if_pos (hx.trans x5)] at hv'; exact hv'
    subst v1
    rw [show (k : Int) + 4 = (i : Int) by omega]
    exact x_vi91 eγ hx9 h hS h16 hW hnew heN hT hZ (Or.inl ⟨rfl, x5, i4⟩) hi (fun z => (e1 z).symm) (fun z y => (e2 z y).symm) (fun z y => by rw [e3 z y, if_pos x5])
end VXD
end
