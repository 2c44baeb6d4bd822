/-! The reference's const and formula, exactly: the item. -/
section RIY
variable {G : mG} {d a g R W C Z T N K : Nat} {M : mM} {E : Eg9} {tg : Int} {s s' : st9}
theorem Lc.fdx {k : Nat} {Q : Int → mM → Prop} (h : Lc M a g N T K) (hk : k < N) (hQ : ∀ z : Int, -1 ≤ z → z < K → fdx M a K k z → Q z M) : Ci G y_MM_find (d + 3) [vr a, vi k] M Q := by
  refine (x_MM_find (d := d) h.1 h.2.1 h.2.2.1 hk).mono (fun z M1 e1 => ?_)
  obtain ⟨e1, z1, z2⟩ := e1
  subst e1
  exact hQ z z1.1 z1.2 z2
/-- the stores of a new rule leave all lists and the reader's own numbers alone -/
theorem ri_same {T' : Nat} {v6 x3 : Int} {M3 M4 M5 M6 : mM} (R2 : Lc M3 a g N T' K) (hR : mI M3 g 6 ≤ R) (i6 : i32 v6) (i3 : i32 x3) (iT : i32 (T : Int)) (e4 : M4 = mUI M3 (g + 13) R v6) (e5 : M5 = mUI M4 (g + 14) R x3) (e6 : M6 = mUI M5 (g + 15) R (T : Int)) : (∀ q, q ∈ nums a → sameN M3 M6 q) ∧ mI M6 a = mI M3 a := by
  obtain ⟨L4, -, ⟨-, aI4⟩, m4, -, -⟩ := gsti R2 (i := 13) i6 (by omega) (by decide) (by decide) (fun _ => hR) e4
  obtain ⟨L5, -, ⟨-, aI5⟩, m5, -, -⟩ := gsti L4 (i := 14) i3 (by omega) (by decide) (by decide) (fun z => by omega) e5
  obtain ⟨L6, -, ⟨-, aI6⟩, m6, -, -⟩ := gsti L5 (i := 15) iT (by omega) (by decide) (by decide) (fun z => by omega) e6
  exact ⟨fun q hq => ((m4.lst hq (fun z => z)).trans (m5.lst hq (fun z => z))).trans (m6.lst hq (fun z => z)), by rw [aI6, aI5, aI4]⟩
/-- a formula -/
theorem x_ri_f {gm : gm9} {k e T' f : Nat} {x3 v6 : Int} {M6 : mM} (h : Df M a g N T K R W C Z E tg) (hR : R < 60) (hk : k + 1 < N) (t1 : T < T') (hT' : T' ≤ k + 20000) (hTe : T' ≤ e + 1) (hZe : Z ≤ e + 1) (i6 : i32 v6) (z0 : v6 ≠ 0) (S6 : riS M a g N T K R W C Z T' f 0 v6 x3 M6) (hS : RSq M a g K s.1) (hst : s.2.1 = (W, R, C, if tg = -1 then 0 else 1)) (h3 : lst3 M a M6) (h16 : mI M6 a 16 = 0) (hw : wk M a k = 6) (hv6 : v6 = if wk M a k = 6 then 1 else 0) (hnew : fdn M a K (k + 1) = -1) (eγ : E.2 = txg M a N s.1 gm) (he6 : Eo (wk M a) 6 (k + 3) e) (hnx : nxq (wk M a) 34 N (k + 1) = e) (tm : Td (wk M a) (nt M (a + 7)) (nrq M a (rvn M a K)) (so M6 g) (pm M6 g) (va M6 g) (fp M6 g) (np M6 g) 0 0 (k + 3) e T T') (es : s' = (s.1 ++ [(k + 1, 2, x3, (0, 0, 1))], (W, R + 1, C, if tg = -1 then 0 else 1), (0, 0))) : h_MM_ruleItem_187 G (d + 6) a k v6 R M6 (fun M' => mOk M' ∧ itX M a g N (e + 1) s' gm M') := by
  obtain ⟨L6, I6, gI6, ⟨z30, z32, z34⟩, G6, c13, c15, tn6, ty6⟩ := S6
  have D6 := h.2.2.2.2.ge G6
  have hg := h.1.2.2.2.2.2.1
  have RS6 : RSq M6 a g K s.1 := hS.ge h.1.2.2.1 h.2.1.1 h.2.1.2.1 h.2.2.2.2.1.1 G6 (I6.sx h.1.2.1.1.1 hg) (h3.q K)
  have hRr : rcn s.1 = R := by
    have := D6.2.2.2.2.2.2.2.1.1
    rw [eγ] at this
    exact this
  have hrl : ∀ r : Nat, r < R → (if r = R then T' else E.1 r) = E.1 r := fun r hr => if_neg (by omega)
  have g9 : RGq (gWs E.2 (E.2.2.2.2.2.2.1 ++ [(k + 1, 2, x3, (0, 0, 1))]) E.2.2.2.2.2.2.2) M6 g (R + 1) W C Z T' (fun r => if r = R then T' else E.1 r) tg := by
    refine (D6.tu (Nat.le_of_lt t1)).2.2.2.2.2.2.2.ru hrl (by show (2 : Nat) ≠ 3; decide) (fun u => absurd (show (2 : Nat) = 1 from u) (by decide)) (fun _ => ⟨fun u => z0 (c13.symm.trans u), T, nrq M a (rvn M a K), c15, ?_, ?_, ?_⟩)
    · rw [eγ]
      show Eo (wk M a) 6 (k + 1 + 2) (nxq (wk M a) 34 N (k + 1))
      rw [hnx]
      exact he6
    · rw [eγ]
      exact hS.nvo
    · rw [eγ]
      show Td (wk M a) (nt M (a + 7)) (nrq M a (rvn M a K)) (so M6 g) (pm M6 g) (va M6 g) (fp M6 g) (np M6 g) 0 0 (k + 1 + 2) (nxq (wk M a) 34 N (k + 1)) T (if R = R then T' else E.1 R)
      rw [hnx, if_pos rfl]
      exact tm
  refine x_ri187 (nwe := (k + 1, 2, x3, (0, 0, 1))) (gm := gm) (by show gWs E.2 _ _ = _; rw [eγ]; rfl) hRr h hR hk hT' hTe hZe i6 L6 I6 gI6 (E' := (fun r => if r = R then T' else E.1 r, gWs E.2 (E.2.2.2.2.2.2.1 ++ [(k + 1, 2, x3, (0, 0, 1))]) E.2.2.2.2.2.2.2)) z30 z32 z34 c13 (fun y16 => ?_) (Or.inr hw) hv6 RS6 h3 hnew hst (fun z => absurd h16 z) (fun _ => ⟨es, rfl, by rw [if_neg (by omega)], tn6.symm, fun z => absurd z (by simp)⟩)
  refine (D6.tu (Nat.le_of_lt t1)).ru hR hrl g9 (fun z => absurd (c13.symm.trans z) z0) (fun _ => ⟨T, f, c15, by show (if R = R then T' else E.1 R) ≤ T'; rw [if_pos rfl]; exact Nat.le_refl _, fun r' hr' z' => ?_, ?_⟩)
  · show (if r' = R then T' else E.1 r') ≤ T
    rw [if_neg (by omega)]
    obtain ⟨n, f', -, q2, -⟩ := D6.2.2.1 r' hr' z'
    exact q2
  · show Ty (nme True M6 g R W) (tn M6 g) M6 g f 0 T (if R = R then T' else E.1 R) (fun _ => tn M6 g R)
    rw [if_pos rfl, tn6]
    exact ty6 True (fun _ => trivial)
/-- a constant -/
theorem x_ri_c {gm : gm9} {k e T' f : Nat} {co x3 v6 : Int} {M6 : mM} (h : Df M a g N T K R W C Z E tg) (hR : R < 60) (hk : k + 1 < N) (t1 : T < T') (hT' : T' ≤ k + 20000) (hT16 : T' ≤ 16384) (hTe : T' ≤ e + 1) (hZe : Z ≤ e + 1) (i6 : i32 v6) (z0 : v6 = 0) (hco : co ≠ 0) (S6 : riS M a g N T K R W C Z T' f co v6 x3 M6) (hS : RSq M a g K s.1) (hst : s.2.1 = (W, R, C, if tg = -1 then 0 else 1)) (h3 : lst3 M a M6) (h16 : mI M6 a 16 = 0) (hw : wk M a k = 3) (hv6 : v6 = if wk M a k = 6 then 1 else 0) (hnew : fdn M a K (k + 1) = -1) (he6 : Eo (wk M a) 6 (k + 3) e) (hfl : (fl (wk M a) (Ern M a g K 1) (nt M (a + 7)) 0 (k + 3) e).1 = 0) (tm : Td (wk M a) (nt M (a + 7)) (nrq M a (rvn M a K)) (so M6 g) (pm M6 g) (va M6 g) (fp M6 g) (np M6 g) 0 0 (k + 3) e T T') (eγ : E.2 = txg M a N s.1 gm) (es1 : ∀ v : vrs, v = vlq (wk M a) (cv9 (wk M a) (nuq M a) (smx M a) s.1) (nt M (a + 7)) 0 0 (k + 3) e → v.1 ≠ 0 → s'.2.2 = (v.1, v.2.1)) (es2 : ∀ v : vrs, v = vlq (wk M a) (cv9 (wk M a) (nuq M a) (smx M a) s.1) (nt M (a + 7)) 0 0 (k + 3) e → v.1 = 0 → s' = (s.1 ++ [(k + 1, 1, x3, v)], (W, R + 1, C, if tg = -1 then 0 else 1), (0, 0))) : Cv G y_MM_workOut (d + 6) [vr a, vr (mR M6 a 10), vi T] M6 (fun M63 => mOk M63 ∧ (mK M63 a = 14 ∧ mK M63 (mR M63 a 10) = 16 ∧ mK M63 (mR M63 a 21) = 33 ∧ ((0 : Int) ≤ 0 ∧ 0 < (mN M63 (mR M63 a 21) : Int)) ∧ mK M63 (mR M63 (mR M63 a 10) 10) = 33 ∧ ((0 : Int) ≤ R ∧ (R : Int) < (mN M63 (mR M63 (mR M63 a 10) 10) : Int)) ∧ ∀ M72, M72 = mUL M63 (mR M63 (mR M63 a 10) 10) R (mL M63 (mR M63 a 21) 0) → mK M72 (mR M72 a 10) = 16 ∧ mK M72 (mR M72 a 22) = 33 ∧ ((0 : Int) ≤ 0 ∧ 0 < (mN M72 (mR M72 a 22) : Int)) ∧ mK M72 (mR M72 (mR M72 a 10) 11) = 33 ∧ ((0 : Int) ≤ R ∧ (R : Int) < (mN M72 (mR M72 (mR M72 a 10) 11) : Int)) ∧ ∀ M79, M79 = mUL M72 (mR M72 (mR M72 a 10) 11) R (mL M72 (mR M72 a 22) 0) → h_MM_ruleItem_187 G (d + 6) a k v6 R M79 (fun M' => mOk M' ∧ itX M a g N (e + 1) s' gm M'))) := by
  obtain ⟨L6, I6, gI6, ⟨z30, z32, z34⟩, G6, c13, c15, tn6, ty6⟩ := S6
  have hg := L6.2.2.2.2.2.1
  have hD := h.2.2.2.2
  have hBd := hD.1
  have D6 := hD.ge G6
  have w6 := L6.2.1.1.1
  have EV : Ev False M6 a g R W T' := ⟨L6.1, w6, hg, L6.2.2.2.1, ⟨hBd.1, hBd.2.1, hT16⟩, fun r hr => ⟨D6.2.1 r hr, fun z => z.elim⟩, fun z => z.elim⟩
  rw [show mR M6 a 10 = g from L6.2.2.2.2.1]
  have sx6 := I6.sx h.1.2.1.1.1 hg
  have RS6 : RSq M6 a g K s.1 := hS.ge h.1.2.2.1 h.2.1.1 h.2.1.2.1 hBd.1 G6 sx6 (h3.q K)
  have ern6 : Ern M6 a g K 1 = Ern M a g K 1 := by rw [RS6.en (Or.inr rfl), hS.en (Or.inr rfl), sx6.sm]
  have nrq6 : nrq M6 a (rvn M6 a K) = nrq M a (rvn M a K) := by
    funext y
    unfold nrq
    rw [sx6.1, sx6.nv, h3.rv sx6]
  have vv : vlM M6 a g (nrq M6 a (rvn M6 a K)) (k + 3, e) = vlq (wk M a) (cv9 (wk M a) (nuq M a) (smx M a) s.1) (nt M (a + 7)) 0 0 (k + 3) e := by
    show vlq (wk M6 a) (cvq M6 a g (nrq M6 a (rvn M6 a K))) (nt M6 (a + 7)) 0 0 (k + 3) e = _
    rw [sx6.1, sx6.2.1]
    refine vl_cg0 (E := Ern M a g K 1) (fun y y1 y2 => ?_) he6 hfl
    rw [RS6.cv (by rw [sx6.1, ern6]; exact y2), sx6.1, sx6.nu, sx6.sm]
  refine (x_MM_workOut (d := d + 2) (nv := nrq M6 a (rvn M6 a K)) (b := R) (F := False) (fun z => z) EV (Nat.le_refl _) (by rw [sx6.1]; exact he6) (by rw [sx6.1, sx6.2.1, nrq6]; exact tm) (ty6 False (fun z => absurd z hco)) (Nat.le_refl _)).mono (fun M7 t7 => ?_)
  clear ty6 EV
  obtain ⟨o7, ⟨E7, v7⟩, x7⟩ := t7
  rw [vv] at x7
  generalize ev : vlq (wk M a) (cv9 (wk M a) (nuq M a) (smx M a) s.1) (nt M (a + 7)) 0 0 (k + 3) e = v9 at x7
  obtain ⟨L7, gI7, G7, q30, q32, q34⟩ := E7.lc (R := R) (W := W) (C := C) (Z := Z) L6
  have w7 := L7.2.1.1.1
  have d7 : mR M7 a 10 = g := L7.2.2.2.2.1
  rw [d7, show mR M7 a 21 = a + 97 from (w7.1.2.2.2.2.1.2.2.2.2.2.2).1, show mR M7 g 10 = g + 16 from (w7.gp hg).2.1.2.2.2.2.2.2.2.2.2.1]
  have b16 := (w7.gp hg).2.2.2.1.2.2.2.1
  refine ⟨o7, w7.1.1, (w7.gp hg).1, (w7.1.2.2.2.2.2.2.2.1).1.1, by rw [(w7.1.2.2.2.2.2.2.2.1).1.2]; decide, b16.1, by rw [b16.2]; omega, fun M8 e8 => ?_⟩
  obtain ⟨L8, I8, i8, m8, f8⟩ := gstl L7 (L7.1 _ _).2 (Or.inl rfl) e8
  have G8 := ge_sl (R := R) (W := W) (C := C) (Z := Z) (T := T') hg m8 f8 i8 (Nat.le_refl R)
  have w8 := L8.2.1.1.1
  have d8 : mR M8 a 10 = g := L8.2.2.2.2.1
  rw [d8, show mR M8 a 22 = a + 98 from (w8.1.2.2.2.2.1.2.2.2.2.2.2).2.1, show mR M8 g 11 = g + 17 from (w8.gp hg).2.1.2.2.2.2.2.2.2.2.2.2]
  have b17 := (w8.gp hg).2.2.2.1.2.2.2.2
  refine ⟨(w8.gp hg).1, (w8.1.2.2.2.2.2.2.2.1).2.1.1, by rw [(w8.1.2.2.2.2.2.2.2.1).2.1.2]; decide, b17.1, by rw [b17.2]; omega, fun M9 e9 => ?_⟩
  obtain ⟨L9, I9, i9, m9, f9⟩ := gstl L8 (L8.1 _ _).2 (Or.inr rfl) e9
  have G9 := ge_sl (R := R) (W := W) (C := C) (Z := Z) (T := T') hg m9 f9 i9 (Nat.le_refl R)
  have h813 : mI M9 (g + 13) R = v6 := by rw [i9, i8, (E7.gs w6).1, c13]
  have t9 : tn M9 g R = x3 := by
    rw [← tn6]
    unfold tn
    rw [if_neg (show ¬ (100 : Int) ≤ (R : Int) by omega), if_neg (show ¬ (100 : Int) ≤ (R : Int) by omega), i9, i8, (E7.gs w6).2.1]
  have a9 : mL M9 (g + 16) R = mL M7 (a + 97) 0 := by rw [f9, if_neg (fun z => by omega), f8, if_pos ⟨rfl, rfl⟩]
  have b9 : mL M9 (g + 17) R = mL M8 (a + 98) 0 := by rw [f9, if_pos ⟨rfl, rfl⟩]
  have b8 : mL M8 (a + 98) 0 = mL M7 (a + 98) 0 := by rw [f8, if_neg (fun z => by omega)]
  have I69 := ((I6.trans (E7.it w6)).trans I8).trans I9
  have l39 : lst3 M a M9 := ((h3.trans (lst3.of E7.1 (fun i hi => by omega))).trans (lst3.of m8 (fun _ _ z => z))).trans (lst3.of m9 (fun _ _ z => z))
  have RS9 : RSq M9 a g K s.1 := hS.ge h.1.2.2.1 h.2.1.1 h.2.1.2.1 hBd.1 (((G6.trans (G7.down (Nat.le_refl _) (Nat.le_refl _) (Nat.le_refl _) (Nat.le_refl _) (Nat.le_of_lt t1))).trans (G8.down (Nat.le_refl _) (Nat.le_refl _) (Nat.le_refl _) (Nat.le_refl _) (Nat.le_of_lt t1))).trans (G9.down (Nat.le_refl _) (Nat.le_refl _) (Nat.le_refl _) (Nat.le_refl _) (Nat.le_of_lt t1))) (I69.sx h.1.2.1.1.1 hg) (l39.q K)
  have x79 : (v9.1 ≠ 0 ∧ mI M9 a 16 = v9.1 ∧ mI M9 a 17 = v9.2.1) ∨ (mI M9 a 16 = 0 ∧ v9 = vr9 x3 (mL M7 (a + 97) 0) (mL M7 (a + 98) 0)) := by
    rw [i9, i8]
    rcases x7 with q | q | q
    · exact absurd h16 q
    · exact Or.inl q
    · exact Or.inr q
  have hRr : rcn s.1 = R := by
    have := D6.2.2.2.2.2.2.2.1.1
    rw [eγ] at this
    exact this
  refine x_ri187 (nwe := (k + 1, 1, x3, v9)) (gm := gm) (by show gWs E.2 _ _ = _; rw [eγ]; rfl) hRr h hR hk hT' hTe hZe i6 L9 I69 (by rw [i9, i8, gI7, gI6]) (E' := (E.1, gWs E.2 (E.2.2.2.2.2.2.1 ++ [(k + 1, 1, x3, v9)]) E.2.2.2.2.2.2.2)) ?_ ?_ ?_ h813 (fun y16 => ?_) (Or.inl hw) hv6 RS9 l39 hnew hst (fun z => ?_) (fun z => ?_)
  rotate_left 4
  · rcases x79 with ⟨q1, q2, q3⟩ | ⟨q, -⟩
    · have := es1 v9 ev.symm q1
      rw [this]
      exact ⟨q1, q2, q3⟩
    · exact absurd q z
  · rcases x79 with ⟨q1, q2, -⟩ | ⟨-, q⟩
    · rw [z] at q2; exact absurd q2.symm q1
    · refine ⟨es2 v9 ev.symm (by rw [q]; rfl), rfl, by rw [if_pos hw], t9.symm, fun _ => ?_⟩
      show v9 = vr9 x3 _ _
      rw [q, a9, b9, b8]
  · rw [(m9.lst (n30 hg) (fun z => z)).1, (m8.lst (n30 hg) (fun z => z)).1, q30, z30]
  · rw [(m9.lst (n32 hg) (fun z => z)).1, (m8.lst (n32 hg) (fun z => z)).1, q32, z32]
  · rw [(m9.lst (n34 hg) (fun z => z)).1, (m8.lst (n34 hg) (fun z => z)).1, q34, z34]
  · rw [i9, i8] at y16
    rcases v7 with y | ⟨-, v7⟩
    · exact absurd y16 y
    have D9 := ((((D6.tu (Nat.le_of_lt t1)).ge G7).ge G8).ge G9)
    refine D9.ru hR (fun _ _ => rfl) (D9.2.2.2.2.2.2.2.ru (fun _ _ => rfl) (by show (1 : Nat) ≠ 3; decide) (fun _ => ⟨h813.trans z0, ?_⟩) (fun u => absurd (show (1 : Nat) = 2 from u) (by decide))) (fun _ => ?_) (fun z => absurd (h813.trans z0) z)
    · show v9 = vr9 (tn M9 g R) _ _
      rcases x79 with ⟨q1, q2, -⟩ | ⟨-, q⟩
      · rw [i9, i8, y16] at q2
        exact absurd q2.symm q1
      · rw [q, t9, a9, b9, b8]
    · rw [t9, a9, b9, b8]
      exact v7
theorem x_MM_ruleItem {gm : gm9} {k e : Nat} (eγ : E.2 = txg M a N s.1 gm) (hnx : nxq (wk M a) 34 N (k + 1) = e) (h : Df M a g N T K R W C Z E tg) (hS : RSq M a g K s.1) (hst : s.2.1 = (W, R, C, if tg = -1 then 0 else 1)) (h16 : mI M a 16 = 0) (hw : wk M a k = 3 ∨ wk M a k = 6) (he6 : Eo (wk M a) 6 (k + 3) e) (he : e < N) (hT : T ≤ k) (hZ : Z ≤ k) : Cv G y_MM_ruleItem (d + 7) [vr a, vi k, vi e] M (fun M' => mOk M' ∧ itX M a g N (e + 1) (itr (wk M a) (nt M (a + 7)) (nuq M a) (smx M a) k e s) gm M') := by
  generalize es : itr (wk M a) (nt M (a + 7)) (nuq M a) (smx M a) k e s = s'
  obtain ⟨hL, ⟨g6, g12, g18, g17⟩, ⟨y30, y32, y34⟩, hK, hD⟩ := id h
  obtain ⟨hO, hx, hnm, hd, h10, hg, hB, -⟩ := id hL
  have w := hx.1.1
  have hN := hx.1.2.2
  have hke := he6.pr.1
  have hBd := hD.1
  refine k_MM_ruleItem hO (i32s (by omega) (by omega)) (i32s (by omega) (by omega)) ⟨w.1.1, hL.wd (d := d + 5) (by omega) (fun x hx0 ix => ⟨ix, hO, fun v6 hv6 => ⟨w.1.1, ?_⟩⟩)⟩
  have c6 : v6 = 0 ∨ v6 = 1 := by split at hv6 <;> omega
  have hv6' : v6 = if wk M a k = 6 then 1 else 0 := by
    rw [hx0] at hv6
    rw [hv6]
  clear hv6
  rw [h10, g6]
  refine ⟨(w.gp hg).1, fun q => x_st_it (d := d + 5) (c := 5) (by decide) ⟨by decide, by decide⟩ hL (by omega) (by rw [← es]; exact itr_many (by rw [hst]; show R = 60; omega)), fun q => ?_⟩
  have n60 : s.2.1.2.1 ≠ 60 := by rw [hst]; show R ≠ 60; omega
  have hR : R < 60 := by omega
  rw [show (k : Int) + 1 = ((k + 1 : Nat) : Int) by omega, show (k : Int) + 3 = ((k + 3 : Nat) : Int) by omega]
  refine hL.fdx (d := d + 3) (by omega) (fun r r0 r1 rf => ⟨i32s (by omega) (by omega), hO, fun q2 => ⟨w.1.1, ?_⟩, fun q2 => ⟨w.1.1, x_st_it (d := d + 5) (c := 2) (by decide) ⟨by decide, by decide⟩ hL (by omega) (by rw [← es]; exact itr_known n60 ((hS.kw rf).2 (by omega)))⟩⟩)
  have hnone := (hS.kw rf).1 (by omega)
  have hnew : fdn M a K (k + 1) = -1 := by rw [← fdn_un rf]; omega
  rw [h10, g6]
  refine ⟨(w.gp hg).1, ?_⟩
  clear r0 r1 q2
  refine (x_MM_tree (d := d) hO hx hg h10 hd he6 he (by omega)).mono (fun r2 M2 t => ?_)
  obtain ⟨tt1, tt2, T9, tt3, tt4, tt5, tt6, tt7, tt8, tt9⟩ := t
  obtain ⟨er, T', t1, t2, L2, t3, e2, m2, s2⟩ := tr_lc hL (by omega) ⟨tt1, tt2, T9, tt3, tt4, tt5, tt6, tt7, tt9⟩
  have eT : T9 = T' := by
    have q1 := tt3 (g + 1) (by first | exact tLk1 g | exact gLk1 g | omega)
    have q2 := L2.2.2.2.1 (g + 1) (by first | exact tLk1 g | exact gLk1 g | omega)
    omega
  subst eT
  obtain ⟨k1, k2, k3, k4, k5, k6⟩ := tr_same (K := K) hg w tt1
  subst er
  have w2 := L2.2.1.1.1
  refine ⟨i32s (by omega) (by omega), L2.1, fun v33 hv33 => ⟨w2.1.1, (x_MM_look (d := d) (co := v33) (trlk (ur_n (M := M) (a := a) (g := g) (N := N) (K := K) (co := v33)) hg w L2 tt1 e2.2.2.2) (i32s (by split at hv33 <;> omega) (by split at hv33 <;> omega)) (nm := nmw (wk M a) N) (fun v hv => ⟨⟨hv.1, hv.2.1⟩, by rw [k1]; exact hv.2.2⟩) (by rw [k1]; exact he6) (tm_self k1 k2 k3 tt8.1) L2 t3 (Nat.le_refl _)).mono (fun x3 M3 q0 => ?_)⟩⟩
  obtain ⟨q3, qx⟩ := q0
  have Rl := tl_rl hL L2 e2 m2 s2 q3
  rw [k1, k2, show mI M2 a = mI M a from e2.1] at qx
  have w2' := w2
  have hv33' : v33 = if wk M a k = 3 then 1 else 0 := by
    rw [hv6'] at hv33
    rw [hv33]
    rcases hw with q | q
    · rw [if_pos q]
      simp [q]
    · rw [if_neg (by omega)]
      simp [q]
  have c33 : v33 = 0 ∨ v33 = 1 := by rw [hv33']; split <;> simp
  have enE := hS.en (co := v33) c33
  rw [enE, hv33'] at qx
  have tmr : mI M3 a 16 = 0 → Tmr M M3 a g (rvn M a K) (k + 3) e T T9 := fun z => by
    rcases qx with q | ⟨q, -⟩ | ⟨-, -, -, qv⟩
    · exact absurd h16 q
    · exact absurd z q
    · exact tm_rs hg w tt1 w2' q3.1 he6 tt8.1 qv
  have l33 : lst3 M a M3 := lst3.of Rl.1 (fun i hi z => by
    have z' : ((a + i = g + 1 ∨ a + i = g + 3 ∨ a + i = g + 5 ∨ a + i = g + 7 ∨ a + i = g + 9 ∨ a + i = g + 11) ∨ a + i = a + 91) ∨ (a + i = a + 93 ∨ a + i = a + 95 ∨ a + i = g + 7) := z
    first | exact l33z hg hi z' | omega)
  have hpm : ∀ n, n < T → pm M3 g n = pm M g n := fun n hn => (q3.1.pm w2' n).trans (tt8.2 n hn)
  clear q3 s2 m2 e2 t3 tt8 tt9 tt7 tt6 tt3 k4
  have I3 := (rlR.ge (R := R) (W := W) (C := C) (Z := Z) hL Rl).1
  have R2 := Rl.2.1
  have R5 := Rl.2.2.2.2.1
  have w3 := R2.2.1.1.1
  have hb1 : T9 ≤ k + 20000 := by omega
  have hb2 : T9 ≤ 16384 := by omega
  have hb3 : T9 ≤ e + 1 := by omega
  have hb4 : Z ≤ e + 1 := by omega
  have hk1 : k + 1 < N := by omega
  have i6 : i32 v6 := i32s (by omega) (by omega)
  have ix3 : i32 x3 := i32s (by omega) (by omega)
  have R60 : ((0 : Int) ≤ R ∧ (R : Int) < ((60 : Nat) : Int)) := by omega
  clear hB hBd hke hN t2 hd hnm y30 y32 y34 hK
  refine ⟨ix3, R2.1, w3.1.1, fun z16 => ?_, fun z16 => ⟨R2.1, I3, Or.inl ?_⟩⟩
  rotate_left
  · rcases qx with q | ⟨q, qf⟩ | ⟨q, -⟩
    · exact absurd h16 q
    · have fz : (fl (wk M a) (E9 (smx M a) s.1 (if wk M a k = 3 then 1 else 0)) (nt M (a + 7)) 0 (k + 3) e).1 ≠ 0 := by rw [← qf.1]; exact q
      rw [← es, itr_fl n60 hnone fz]
      exact ⟨fz, qf⟩
    · exact absurd q z16
  obtain ⟨hfl, hx3⟩ : (fl (wk M a) (E9 (smx M a) s.1 (if wk M a k = 3 then 1 else 0)) (nt M (a + 7)) 0 (k + 3) e).1 = 0 ∧ x3 = kdq (wk M a) (E9 (smx M a) s.1 (if wk M a k = 3 then 1 else 0)) 0 (k + 3) e := by
    rcases qx with q | ⟨q, -⟩ | ⟨-, q1, q2, -⟩
    · exact absurd h16 q
    · exact absurd z16 q
    · exact ⟨q1, q2⟩
  have tmr := tmr z16
  have g63 : mI M3 g 6 ≤ R := by rw [Rl.2.2.2.1, g6]; omega
  rw [show mR M3 a 10 = g from R2.2.2.2.2.1, show mR M3 g 7 = g + 13 from (w3.gp hg).2.1.2.2.2.2.2.2.1, Int.toNat_natCast]
  have b13 := (w3.gp hg).2.2.2.1.1
  refine ⟨(w3.gp hg).1, b13.1, by rw [b13.2]; exact R60, fun M4 e4 => ?_⟩
  have La := fun M5 M6 e5 e6 => ri_a (M5 := M5) (M6 := M6) h hR t1 Rl z16 hpm c6 e4 e5 e6
  have L4 := (La _ _ rfl rfl).2.1
  have w4 := L4.2.1.1.1
  rw [show mR M4 a 10 = g from L4.2.2.2.2.1, show mR M4 g 8 = g + 14 from (w4.gp hg).2.1.2.2.2.2.2.2.2.1]
  have b14 := (w4.gp hg).2.2.2.1.2.1
  refine ⟨(w4.gp hg).1, b14.1, by rw [b14.2]; exact R60, R5, fun M5 e5 => ?_⟩
  have L5 := (La M5 _ e5 rfl).2.2
  have w5 := L5.2.1.1.1
  rw [show mR M5 a 10 = g from L5.2.2.2.2.1, show mR M5 g 9 = g + 15 from (w5.gp hg).2.1.2.2.2.2.2.2.2.2.1]
  have b15 := (w5.gp hg).2.2.2.1.2.2.1
  refine ⟨(w5.gp hg).1, b15.1, by rw [b15.2]; exact R60, fun M6 e6 => ?_⟩
  obtain ⟨f, S6⟩ := (La M5 M6 e5 e6).1
  obtain ⟨sm6, aI6⟩ := ri_same R2 g63 i6 ix3 (i32s (by omega) (by omega)) e4 e5 e6
  have z16' : mI M6 a 16 = 0 := by rw [aI6]; exact z16
  have l36 : lst3 M a M6 := l33.trans ⟨sm6 _ n85, sm6 _ n87, sm6 _ n89⟩
  have tm6 : Td (wk M a) (nt M (a + 7)) (nrq M a (rvn M a K)) (so M6 g) (pm M6 g) (va M6 g) (fp M6 g) (np M6 g) 0 0 (k + 3) e T T9 := tmr.cg (Or.inl ⟨rfl, he6⟩) (fun y _ _ => ⟨(sm6 _ (tL_in (q := g + 1) hg (tLk1 g))).2.1 y, (sm6 _ (tL_in (q := g + 3) hg (tLk3 g))).2.1 y, (sm6 _ (tL_in (q := g + 7) hg (tLk7 g))).2.1 y, (sm6 _ (tL_in (q := g + 9) hg (tLk9 g))).2.1 y⟩) (fun y _ _ => (sm6 _ (tL_in (q := g + 11) hg (tLk11 g))).2.1 y) (fun u => absurd u (by decide))
  refine ⟨fun z0 => ?_, fun z0 => ?_⟩
  · have w3k : wk M a k = 3 := by
      rcases hw with q | q
      · exact q
      · rw [if_pos q] at hv6'; omega
    rw [w3k, if_pos rfl] at hfl hx3
    refine x_ri_c h hR hk1 t1 hb1 hb2 hb3 hb4 i6 z0 (by rw [hv33', if_pos w3k]; decide) S6 hS hst l36 z16' w3k hv6' hnew he6 (by rw [hS.en (Or.inr rfl)]; exact hfl) tm6 eγ (fun v ev v1 => ?_) (fun v ev v1 => ?_)
    · rw [← es, ev]
      exact itr_vl n60 hnone (by rw [w3k, if_pos rfl]; exact hfl) w3k (by rw [← ev]; exact v1)
    · rw [← es, itr_ok (v := v) n60 hnone (by rw [w3k, if_pos rfl]; exact hfl) (by rw [w3k, if_pos rfl]; exact ev) v1, hst, w3k, if_pos rfl, if_pos rfl, ← hx3]
  · have w6k : wk M a k = 6 := by
      rcases hw with q | q
      · rw [if_neg (by omega)] at hv6'; exact absurd hv6' z0
      · exact q
    have v0 : v33 = 0 := by rw [hv33', if_neg (by omega)]
    rw [v0] at S6
    refine x_ri_f h hR hk1 t1 hb1 hb3 hb4 i6 z0 S6 hS hst l36 z16' w6k hv6' hnew eγ he6 hnx tm6 ?_
    have n3 : ¬ wk M a k = 3 := by omega
    rw [← es, itr_ok (v := (0, 0, 1)) n60 hnone hfl (by rw [if_neg n3]) rfl, hst, ← hx3, if_neg n3]
end RIY
