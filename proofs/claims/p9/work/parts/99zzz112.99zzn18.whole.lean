section
/-! The reference's vars, exactly: whole numbers, first values. -/
section VIX
variable {G : mG} {d a g R W C Z T N K : Nat} {M M2 M3 : mM} {E : Eg9} {nv : Nat → Int}
/-- a rule made of constants alone, and which words it stands for -/
def Ctx (M : mM) (a g R W T : Nat) (nv : Nat → Int) (i j n : Nat) (t : Int) : Prop := Eo (wk M a) 6 i j ∧ ∃ f e : Nat, Ty (nme False M g R W) (tn M g) M g f 0 n e (fun _ => t) ∧ e ≤ T ∧ Td (wk M a) (nt M (a + 7)) nv (so M g) (pm M g) (va M g) (fp M g) (np M g) 0 0 i j n e
theorem Ctx.gn {i j n : Nat} {t : Int} (h : Ctx M a g R W T nv i j n t) (k : Gn M g R W T M2) (hR : R ≤ 60) (sx : SXq M a M2) (hp : ∀ n, n < T → pm M2 g n = pm M g n) : Ctx M2 a g R W T nv i j n t := by
  obtain ⟨eo, f, e, h1, h2, h3⟩ := h
  refine ⟨by rw [sx.1]; exact eo, f, e, (h1.mono (nm' := nme False M2 g R W) (w' := tn M2 g) (fun v hv => ⟨k.nm (Nat.le_refl _) hv, k.tnm hR hv.wk (Nat.le_refl _)⟩)).fr (fun n _ n2 => ⟨(k.1 n (by omega)).1, (k.1 n (by omega)).2.1, (k.1 n (by omega)).2.2.1⟩) (fun n _ n2 => (k.1 n (by omega)).2.2.2.1) (fun z => absurd rfl z), h2, ?_⟩
  rw [sx.1, sx.2.1]
  exact h3.cg (Or.inl ⟨rfl, eo⟩) (fun x _ x2 => ⟨(k.1 x (by omega)).1, hp x (by omega), (k.1 x (by omega)).2.1, (k.1 x (by omega)).2.2.1⟩) (fun x _ x2 => (k.1 x (by omega)).2.2.2.1) (fun u => absurd u (by decide))
theorem Ctx.up {i j n T' : Nat} {t : Int} (h : Ctx M a g R W T nv i j n t) (hT : T ≤ T') : Ctx M a g R W T' nv i j n t := by
  obtain ⟨eo, f, e, h1, h2, h3⟩ := h
  exact ⟨eo, f, e, h1, by omega, h3⟩
/-- what a whole number comes to -/
def whX (M : mM) (a g : Nat) (nv : Nat → Int) (i j wd : Nat) (x : Int) (M' : mM) : Prop := ((wh9 (vlM M a g nv (i, j)) (nt M (a + 7) wd)).1 ≠ 0 ∧ fpw M' a (wh9 (vlM M a g nv (i, j)) (nt M (a + 7) wd))) ∨ ((wh9 (vlM M a g nv (i, j)) (nt M (a + 7) wd)).1 = 0 ∧ mI M' a 16 = 0 ∧ x = (vlM M a g nv (i, j)).2.1)
theorem x_MM_wholeOf {n wd i j : Nat} (hL : Lc M a g N T K) (h : Ev False M a g R W T) (ht : Ctx M a g R W T nv i j n 0) (hwd : wd < N) : Ci G y_MM_wholeOf (d + 5) [vr a, vi n, vi wd] M (fun x M' => i32 x ∧ mOk M' ∧ EO False M a g R W T M' ∧ (mI M' a 16 = 0 → mI M a 16 = 0 ∧ -1000000000 < x ∧ x < 1000000000) ∧ (mI M a 16 = 0 → whX M a g nv i j wd x M') ∧ (mI M a 16 ≠ 0 → M' = M)) := by
  obtain ⟨eo, f, e, ht, he, tm⟩ := ht
  have w := h.2.1
  have hN := hL.2.1.1.2.2
  have hlt := ht.tn.lt
  have hB := h.2.2.2.2.1
  refine k_MM_wholeOf2 h.1 (i32s (by omega) (by omega)) (i32s (by omega) (by omega)) ⟨w.1.1, fun z16 => ?_, fun z16 => ⟨⟨by omega, by omega⟩, h.1, EO.refl h, fun q => absurd q z16, fun q => absurd q z16, fun _ => rfl⟩⟩
  rw [show mR M a 10 = g from hL.2.2.2.2.1]
  refine (x_MM_workOut (d := d) (b := R) (F := False) (fun z => z) h (Nat.le_refl _) eo tm ht he).mono (fun M4 t4 => ?_)
  obtain ⟨o4, ⟨E4, v4⟩, x4⟩ := t4
  generalize ev : vlM M a g nv (i, j) = v9 at x4
  have cz := (cmpz (mL M4 (a + 98) 0) 1).2.2.2.1
  have w4 := E4.1.2.1
  have L4 := (E4.lc (R := R) (W := W) (C := 0) (Z := 0) hL).1
  rw [show mR M4 a 22 = a + 98 from (w4.1.2.2.2.2.1.2.2.2.2.2.2).2.1, show mR M4 a 21 = a + 97 from (w4.1.2.2.2.2.1.2.2.2.2.2.2).1]
  refine ⟨o4, w4.1.1, fun _ => ⟨(w4.1.2.2.2.2.2.2.2.1).2.1.1, by rw [(w4.1.2.2.2.2.2.2.2.1).2.1.2]; omega⟩, fun q => ⟨(w4.1.2.2.2.2.2.2.2.1).1.1, by rw [(w4.1.2.2.2.2.2.2.2.1).1.2]; omega, i32_w32, o4, E4, fun y16 => ⟨z16, ?_⟩, fun _ => ?_, fun q => absurd z16 q⟩, fun q => ?_⟩
  · rcases v4 with y | ⟨-, y⟩
    · exact absurd y16 y
    · unfold vok at y
      rw [w32_id ⟨by omega, by omega⟩]
      omega
  · unfold whX wh9
    rw [ev]
    rcases x4 with y | y | ⟨y16, y⟩
    · exact absurd z16 y
    · rw [if_pos y.1]
      exact Or.inl ⟨y.1, y.2.1, y.2.2⟩
    · have v0 : vok 0 (mL M4 (a + 97) 0) (mL M4 (a + 98) 0) := by
        rcases v4 with y | ⟨-, y⟩
        · exact absurd y16 y
        · exact y
      unfold vok at v0
      have b1 : mL M4 (a + 98) 0 = 1 := by
        rcases q with q | q
        · exact absurd y16 q
        · exact cz.mp q
      rw [y]
      unfold vr9
      rw [if_neg (by simp), if_neg (by rw [b1]; simp)]
      refine Or.inr ⟨rfl, y16, ?_⟩
      rw [w32_id ⟨by omega, by omega⟩]
  · refine (s_MM_place0 (d := d + 3) o4 L4.2.1 hwd).mono (fun y M5 h5 => ?_)
    obtain ⟨e5, hy⟩ := h5
    subst e5
    have hy32 : i32 y := by rw [hy]; exact (o4 _ _).1
    refine ⟨hy32, o4, w4.1.1, (s_MM_stop ⟨by omega, by omega⟩ hy32 o4 w4).mono (fun M6 h6 => ?_)⟩
    obtain ⟨m6, f1, f2, f3⟩ := h6
    have w6 := m6.2.1
    rw [show mR M6 a 21 = a + 97 from (w6.1.2.2.2.2.1.2.2.2.2.2.2).1]
    refine ⟨m6.1, w6.1.1, (w6.1.2.2.2.2.2.2.2.1).1.1, by rw [(w6.1.2.2.2.2.2.2.2.1).1.2]; omega, i32_w32, m6.1, E4.step m6 (fun _ z => z.elim) (fun x z => Or.inl z) (fun i i1 i2 _ => f3 i i1 i2), fun q => by rw [f1] at q; exact absurd q (by decide), fun _ => ?_, fun q => absurd z16 q⟩
    have y16 : mI M5 a 16 = 0 := Classical.byContradiction (fun z => q (Or.inl z))
    have b1 : mL M5 (a + 98) 0 ≠ 1 := fun z => q (Or.inr (cz.mpr z))
    unfold whX wh9
    rw [ev]
    rcases x4 with y | y | ⟨-, y⟩
    · exact absurd z16 y
    · rw [y.2.1] at y16; exact absurd y16 y.1
    · rw [y]
      unfold vr9
      rw [if_neg (by simp), if_pos (by show (if (0 : Int) = 1 then (1 : Int) else mL M5 (a + 98) 0) ≠ 1; rw [if_neg (by decide)]; exact b1)]
      have p7 : nt M5 (a + 7) wd = nt M (a + 7) wd := (E4.1.lst n7 (by omega)).2.1 wd
      exact Or.inl ⟨by simp, f1, by rw [f2, hy, p7]⟩
end VIX
end
section
/-! The reference's vars, exactly: first values, and what is kept inside a var. -/
section VXA
variable {G : mG} {d a g R W C Z T T2 T3 N K : Nat} {M M2 M3 : mM} {E : Eg9} {tg bl : Int} {s s' : st9} {nv : Nat → Int}
/-- the fault of a first value -/
def bef (bl lo hi p : Int) (x : vrs) : Int × Int := if bl ≠ 0 then wh9 x p else fst9 (wh9 x p) (if lo ≤ x.2.1 ∧ x.2.1 ≤ hi then (0, 0) else (9, p))
/-- a first value is told, or its fault -/
def beX (M : mM) (a g R W T v : Nat) (V : vrs) (b : Int × Int) (M' : mM) : Prop := ∃ (M1 : mM) (x : Int), EO False M a g R W T M1 ∧ i32 x ∧ M' = mUI M1 (g + 21) v x ∧ (mI M1 a 16 = 0 → (mI M (g + 18) v = 0 → mI M (g + 19) v ≤ x ∧ x ≤ mI M (g + 20) v) ∧ (mI M (g + 18) v ≠ 0 → 0 ≤ x ∧ x ≤ 1)) ∧ ((b.1 ≠ 0 ∧ fpw M1 a b) ∨ (b.1 = 0 ∧ mI M1 a 16 = 0 ∧ x = V.2.1))
theorem x_MM_begins {n wd v i j : Nat} {t : Int} (hL : Lc M a g N T K) (h : Ev False M a g R W T) (h16 : mI M a 16 = 0) (ht : Ctx M a g R W T nv i j n t) (hv : v < 12) (ht1 : mI M (g + 18) v ≠ 0 → t = 1) (ht0 : mI M (g + 18) v = 0 → t = 0) (hwd : wd < N) : Cv G y_MM_begins (d + 6) [vr a, vi v, vi n, vi wd] M (fun M' => mOk M' ∧ beX M a g R W T v (vlM M a g nv (i, j)) (bef (mI M (g + 18) v) (mI M (g + 19) v) (mI M (g + 20) v) (nt M (a + 7) wd) (vlM M a g nv (i, j))) M') := by
  obtain ⟨eo, f, e, hty, he, tm⟩ := id ht
  have w := h.2.1
  have hg := h.2.2.1
  have hN := hL.2.1.1.2.2
  have hlt := hty.tn.lt
  have hB := h.2.2.2.2.1
  have hin : ∀ q, q = a + 99 → q ∈ nums a := fun q hq => by rw [hq]; exact n99
  have keep : ∀ (M1 : mM) (i : Nat), EO False M a g R W T M1 → i ≤ 29 → frO (13 + i) → frO (49 + i) → mI M1 (g + i) = mI M (g + i) := fun M1 i k i1 f1 f2 => (k.1.cellL w hin (goffx hg f1 f2) (fun z => by
    have : g + i = a ∨ g + i = a + 97 ∨ g + i = a + 98 ∨ g + i = a + 102 ∨ g + i = a + 103 ∨ g + i = a + 104 := z
    omega)).1
  refine k_MM_begins2 h.1 (i32s (by omega) (by omega)) (i32s (by omega) (by omega)) (i32s (by omega) (by omega)) ?_
  have b13 := (w.gp hg).2.2.2.2.1.1
  rw [show mR M a 10 = g from hL.2.2.2.2.1, show mR M g 13 = g + 18 from (w.gp hg).2.2.1.1, Int.toNat_natCast]
  refine ⟨w.1.1, (w.gp hg).1, b13.1, by rw [b13.2]; omega, fun z0 => ?_, fun z0 => ?_⟩
  · have t0 := ht0 z0
    subst t0
    refine (x_MM_wholeOf (d := d) hL h ht hwd).mono (fun x M7 t7 => ?_)
    obtain ⟨ix, o7, E7, v7, x7, -⟩ := t7
    have x7 := x7 h16
    unfold whX at x7
    generalize vlM M a g nv (i, j) = v9 at x7 ⊢
    have bz : bef (mI M (g + 18) v) (mI M (g + 19) v) (mI M (g + 20) v) (nt M (a + 7) wd) v9 = fst9 (wh9 v9 (nt M (a + 7) wd)) (if mI M (g + 19) v ≤ v9.2.1 ∧ v9.2.1 ≤ mI M (g + 20) v then (0, 0) else (9, nt M (a + 7) wd)) := if_neg (fun z => z z0)
    rw [bz]
    have w7 := E7.1.2.1
    have L7 := (E7.lc (R := R) (W := W) (C := 0) (Z := 0) hL).1
    have b14 := (w7.gp hg).2.2.2.2.1.2.1
    have b15 := (w7.gp hg).2.2.2.2.1.2.2.1
    have b16 := (w7.gp hg).2.2.2.2.1.2.2.2
    rw [show mR M7 a 10 = g from L7.2.2.2.2.1, show mR M7 g 14 = g + 19 from (w7.gp hg).2.2.1.2.1, show mR M7 g 15 = g + 20 from (w7.gp hg).2.2.1.2.2.1, show mR M7 g 16 = g + 21 from (w7.gp hg).2.2.1.2.2.2.1, keep M7 19 E7 (by omega) (by decide) (by decide), keep M7 20 E7 (by omega) (by decide) (by decide)]
    refine ⟨ix, o7, w7.1.1, fun _ => ⟨(w7.gp hg).1, b14.1, by rw [b14.2]; omega, fun _ => ⟨b15.1, by rw [b15.2]; omega⟩⟩, fun q => ?_, fun q => ⟨(w7.gp hg).1, b16.1, by rw [b16.2]; omega, fun M8 e8 => ⟨by rw [e8]; exact mOk_UI o7 ix, M7, x, E7, ix, e8, fun y16 => ⟨fun _ => by omega, fun y => absurd z0 y⟩, by
      rcases x7 with ⟨y1, y2⟩ | ⟨y1, y2, y3⟩
      · rw [fst9_l y1]; exact Or.inl ⟨y1, y2⟩
      · rw [fst9_r y1, if_pos ⟨by omega, by omega⟩]; exact Or.inr ⟨rfl, y2, y3⟩⟩⟩⟩
    refine (s_MM_place0 (d := d + 4) o7 L7.2.1 hwd).mono (fun y M8 h8 => ?_)
    obtain ⟨e8, hy⟩ := h8
    subst e8
    have hy32 : i32 y := by rw [hy]; exact (o7 _ _).1
    refine ⟨hy32, o7, w7.1.1, (s_MM_stop ⟨by omega, by omega⟩ hy32 o7 w7).mono (fun M9 h9 => ?_)⟩
    obtain ⟨m9, f1, f2, f3⟩ := h9
    have w9 := m9.2.1
    have E9 := E7.step m9 (fun _ z => z.elim) (fun x z => Or.inl z) (fun i i1 i2 _ => f3 i i1 i2)
    have L9 := (E9.lc (R := R) (W := W) (C := 0) (Z := 0) hL).1
    have c16 := (w9.gp hg).2.2.2.2.1.2.2.2
    rw [show mR M9 a 10 = g from L9.2.2.2.2.1, show mR M9 g 16 = g + 21 from (w9.gp hg).2.2.1.2.2.2.1]
    exact ⟨m9.1, w9.1.1, (w9.gp hg).1, c16.1, by rw [c16.2]; omega, fun M10 e10 => ⟨by rw [e10]; exact mOk_UI m9.1 ix, M9, x, E9, ix, e10, fun y16 => by rw [f1] at y16; exact absurd y16 (by decide), by
      rcases x7 with ⟨y1, y2⟩ | ⟨y1, y2, y3⟩
      · exact absurd (y2.1.symm.trans q.1) y1
      · have p7 : nt M8 (a + 7) wd = nt M (a + 7) wd := (E7.1.lst n7 (by omega)).2.1 wd
        rw [fst9_r y1, if_neg (fun z => by omega)]
        exact Or.inl ⟨by simp, f1, by rw [f2, hy, p7]⟩⟩⟩
  · have t1 := ht1 z0
    subst t1
    refine (x_MM_workOut (d := d + 1) (b := R) (F := False) (fun z => z) h (Nat.le_refl _) eo tm hty he).mono (fun M4 t4 => ?_)
    obtain ⟨o4, ⟨E4, v4⟩, x4⟩ := t4
    have bz : ∀ x : vrs, bef (mI M (g + 18) v) (mI M (g + 19) v) (mI M (g + 20) v) (nt M (a + 7) wd) x = wh9 x (nt M (a + 7) wd) := fun x => if_pos z0
    rw [bz]
    generalize vlM M a g nv (i, j) = v9 at x4 ⊢
    have w4 := E4.1.2.1
    have L4 := (E4.lc (R := R) (W := W) (C := 0) (Z := 0) hL).1
    have c16 := (w4.gp hg).2.2.2.2.1.2.2.2
    rw [show mR M4 a 10 = g from L4.2.2.2.2.1, show mR M4 g 16 = g + 21 from (w4.gp hg).2.2.1.2.2.2.1, show mR M4 a 21 = a + 97 from (w4.1.2.2.2.2.1.2.2.2.2.2.2).1]
    refine ⟨o4, w4.1.1, (w4.gp hg).1, (w4.1.2.2.2.2.2.2.2.1).1.1, by rw [(w4.1.2.2.2.2.2.2.2.1).1.2]; omega, c16.1, by rw [c16.2]; omega, fun M5 e5 => ⟨by rw [e5]; exact mOk_UI o4 i32_w32, M4, _, E4, i32_w32, e5, fun y16 => ⟨fun y => absurd y z0, fun _ => ?_⟩, ?_⟩⟩
    · rcases v4 with y | ⟨-, y⟩
      · exact absurd y16 y
      · unfold vok at y
        rw [w32_id ⟨by omega, by omega⟩]
        omega
    · unfold wh9
      rcases x4 with y | y | ⟨y16, y⟩
      · exact absurd h16 y
      · rw [if_pos y.1]
        exact Or.inl ⟨y.1, y.2.1, y.2.2⟩
      · have vk : vok 1 (mL M4 (a + 97) 0) (mL M4 (a + 98) 0) := by
          rcases v4 with q | ⟨-, q⟩
          · exact absurd y16 q
          · exact q
        unfold vok at vk
        rw [y]
        refine Or.inr ⟨rfl, y16, ?_⟩
        rw [w32_id ⟨by omega, by omega⟩]
        rfl
/-- the rule's root, and its tree -/
theorem rl_ctx {i j : Nat} {t : Int} {rv : Nat → Int} (hL : Lc M2 a g N T2 K) (g6 : mI M2 g 6 = R) (hR : R ≤ 60) (eo : Eo (wk M2 a) 6 i j) (h : rlR 1 M2 a g N T2 K T3 t M3) (z : mI M3 a 16 = 0) (hp : ∀ n, n < T2 → pm M3 g n = pm M2 g n) (tm : Tmr M2 M3 a g rv i j T2 T3) : Ctx M3 a g R W T3 (nrq M2 a rv) i j T2 t := by
  have G3 := (rlR.ge (R := R) (W := W) (C := 0) (Z := 0) hL h).2.1 z hp
  have sx := (rlR.ge (R := R) (W := W) (C := 0) (Z := 0) hL h).1.sx hL.2.1.1.1 hL.2.2.2.2.2.1
  refine ⟨by rw [sx.1]; exact eo, ?_⟩
  rcases h.2.2.2.2.2 with y | ⟨-, ⟨f, ty⟩, -⟩
  · exact absurd z y
  · refine ⟨f, T3, ty.mono (fun v hv => ?_), Nat.le_refl _, by rw [sx.1, sx.2.1]; exact tm⟩
    unfold nmr at hv
    rw [g6] at hv
    rcases hv with ⟨h1, h2, h3, h4⟩ | ⟨h1, -⟩
    · have gt := G3.1.tr (r := v.toNat) hR (by omega)
      rw [show ((v.toNat : Nat) : Int) = v by omega] at gt
      refine ⟨Or.inl ⟨h1, h2, Or.inr ?_⟩, gt⟩
      rw [(G3.1.2.1 v.toNat (by omega)).1]
      exact h4 (by decide)
    · exact absurd h1 (by decide)
/-- the names inside a var -/
theorem vI.sx (w : Wd M a) (v : vI M a g N T K R W C Z bl T2 M2) : SXq M a M2 := v.2.1.sx w v.1.2.2.2.2.2.1
theorem vI.rs (h : Df M a g N T K R W C Z E tg) (hS : RSq M a g K s.1) (v : vI M a g N T K R W C Z bl T2 M2) (h3 : lst3 M a M2) : RSq M2 a g K s.1 := hS.ge h.1.2.2.1 h.2.1.1 h.2.1.2.1 h.2.2.2.2.1.1 v.2.2.2.2.2.2 (v.sx h.1.2.1.1.1) (h3.q K)
theorem vI.ern (h : Df M a g N T K R W C Z E tg) (hS : RSq M a g K s.1) (v : vI M a g N T K R W C Z bl T2 M2) (h3 : lst3 M a M2) : Ern M2 a g K 1 = Ern M a g K 1 := by
  rw [(vI.rs h hS v h3).en (Or.inr rfl), hS.en (Or.inr rfl), (v.sx h.1.2.1.1.1).sm]
theorem vI.nr (h : Df M a g N T K R W C Z E tg) (v : vI M a g N T K R W C Z bl T2 M2) (h3 : lst3 M a M2) : nrq M2 a (rvn M2 a K) = nrq M a (rvn M a K) := by
  have sx := v.sx h.1.2.1.1.1
  funext y
  unfold nrq
  rw [sx.1, sx.nv, h3.rv sx]
/-- a rule of consts is worth what the text says -/
theorem vI.vl {i j : Nat} (h : Df M a g N T K R W C Z E tg) (hS : RSq M a g K s.1) (v : vI M a g N T K R W C Z bl T2 M2) (h3 : lst3 M a M2) (he6 : Eo (wk M a) 6 i j) (hfl : (fl (wk M a) (E9 (smx M a) s.1 1) (nt M (a + 7)) 0 i j).1 = 0) : vlM M2 a g (nrq M a (rvn M a K)) (i, j) = vlq (wk M a) (cv9 (wk M a) (nuq M a) (smx M a) s.1) (nt M (a + 7)) 0 0 i j := by
  have sx := v.sx h.1.2.1.1.1
  have RS := vI.rs h hS v h3
  have en := vI.ern h hS v h3
  rw [← vI.nr h v h3]
  show vlq (wk M2 a) (cvq M2 a g (nrq M2 a (rvn M2 a K))) (nt M2 (a + 7)) 0 0 i j = _
  rw [sx.1, sx.2.1]
  refine vl_cg0 (E := Ern M a g K 1) (fun y y1 y2 => ?_) he6 (by rw [hS.en (Or.inr rfl)]; exact hfl)
  rw [RS.cv (by rw [sx.1, en]; exact y2), sx.1, sx.nu, sx.sm]
/-- what the lists of names do -/
theorem lst3.rl {co t : Int} (hg : g = a + 13 ∨ g = a + 49) (q : rlR co M2 a g N T2 K T3 t M3) : lst3 M2 a M3 := lst3.of q.1 (fun i hi z => by
    have z' : ((a + i = g + 1 ∨ a + i = g + 3 ∨ a + i = g + 5 ∨ a + i = g + 7 ∨ a + i = g + 9 ∨ a + i = g + 11) ∨ a + i = a + 91) ∨ (a + i = a + 93 ∨ a + i = a + 95 ∨ a + i = g + 7) := z
    first | exact l33z hg hi z' | omega)
theorem lst3.eo {F : Prop} {R' W' T' : Nat} (k : EO F M2 a g R' W' T' M3) : lst3 M2 a M3 := lst3.of k.1 (fun i hi z => by omega)
theorem lst3.ui {x : Nat} {v : Int} (h : Lc M2 a g N T2 K) (hv : i32 v) {i : Nat} (hi : 18 ≤ i ∧ i ≤ 21) (f1 : frO (13 + i)) (f2 : frO (49 + i)) (e : M3 = mUI M2 (g + i) W v) : lst3 M2 a M3 ∧ ∀ n, pm M3 g n = pm M2 g n := by
  obtain ⟨-, -, -, m3, -, -⟩ := gsti h hv (by omega) f1 f2 (fun z => by omega) e
  exact ⟨lst3.of m3 (fun _ _ z => z), fun n => (m3.lst (tL_in (q := g + 3) h.2.2.2.2.2.1 (by omega)) (fun z => z)).2.1 n⟩
theorem lst3.sp {c p : Int} (hg : g = a + 13 ∨ g = a + 49) (q : Mv (fun _ => False) (fun x => x = a) M2 a M3 ∧ mI M3 a 16 = c ∧ mI M3 a 17 = p ∧ ∀ i, i ≠ 16 → i ≠ 17 → mI M3 a i = mI M2 a i) : lst3 M2 a M3 ∧ ∀ n, pm M3 g n = pm M2 g n := ⟨lst3.of q.1 (fun _ _ z => z), fun n => (q.1.lst (tL_in (q := g + 3) hg (tLk3 g)) (fun z => z)).2.1 n⟩
end VXA
end
section
/-! The reference's vars, exactly: their end. -/
section VXB
variable {G : mG} {d a g R W C Z T T2 T3 N K : Nat} {M M2 M3 : mM} {E : Eg9} {tg bl : Int} {s s' : st9} {nv : Nat → Int}
theorem x_vi410 {gm : gm9} {x : Int × Int × Int} {k e : Nat} (eγ : E.2 = txg M a N s.1 gm) (hx9 : mI M2 a 16 = 0 → mI M2 (g + 19) W = x.1 ∧ mI M2 (g + 20) W = x.2.1 ∧ mI M2 (g + 21) W = x.2.2) (hb : bl = 0 ∨ bl = 1) (h : Df M a g N T K R W C Z E tg) (hS : RSq M a g K s.1) (hW : W < 12) (hk : k + 1 < N) (v2 : vI M a g N T K R W C Z bl T2 M2) (l2 : lst3 M a M2) (hnew : fdn M a K (k + 1) = -1) (hTe : T2 ≤ e) (hZe : Z ≤ e) (hv : mI M2 a 16 = 0 → (mI M2 (g + 18) W ≠ 0 → mI M2 (g + 19) W = 0 ∧ mI M2 (g + 20) W = 1) ∧ mI M2 (g + 19) W ≤ mI M2 (g + 21) W ∧ mI M2 (g + 21) W ≤ mI M2 (g + 20) W ∧ -1000000000 < mI M2 (g + 19) W ∧ mI M2 (g + 20) W < 1000000000) (flt : mI M2 a 16 ≠ 0 → s'.2.2.1 ≠ 0 ∧ fpw M2 a s'.2.2) (good : mI M2 a 16 = 0 → s' = (s.1 ++ [(k + 1, 3, bl, (0, 0, 1))], (W + 1, R, C, if tg = -1 then 0 else 1), (0, 0))) : h_MM_varItem_410 G (d + 7) a k W M2 (fun M' => mOk M' ∧ itX M a g N e s' (gm.1 ++ [x], gm.2) M') := by
  obtain ⟨hL, ⟨g6, g12, g18, g17⟩, ⟨y30, y32, y34⟩, hK, hD⟩ := id h
  have RS9 := vI.rs h hS v2 l2
  have sx9 := v2.sx hL.2.1.1.1
  obtain ⟨L9, I9, gI9, ⟨z30, z32, z34⟩, c18, hT, G9⟩ := v2
  have hN := hL.2.1.1.2.2
  have hg := hL.2.2.2.2.2.1
  have hBd := hD.1
  have w9 := L9.2.1.1.1
  refine k_MM_varItem_410 L9.1 (i32s (by omega) (by omega)) (i32s (by omega) (by omega)) ?_
  rw [show mR M2 a 10 = g from L9.2.2.2.2.1]
  refine ⟨w9.1.1, (w9.gp hg).1, i32s (by omega) (by omega), fun M1 e1 => ?_⟩
  have a0 := goff0 hg
  obtain ⟨m1, f1, l1⟩ := mv_cell (v := (W : Int) + 1) (i32s (by omega) (by omega)) L9.1 w9 (show a ≤ g by omega) ⟨a0.1, a0.2.1, a0.2.2.1⟩ e1
  have no : ∀ q : Nat, False → q ∈ nums a := fun _ z => z.elim
  have aI1 := (m1.fld w9 no (by omega)).1
  have g1 : ∀ i, mI M1 g i = if i = 12 then (W : Int) + 1 else mI M g i := fun i => by
    rw [f1]
    by_cases z : i = 12
    · rw [if_pos ⟨rfl, z⟩, if_pos z]
    · rw [if_neg (fun y => z y.2), if_neg z, gI9]
  have x12 : mI M1 g 12 = (W : Int) + 1 := by rw [g1, if_pos rfl]
  have x6 : mI M1 g 6 = R := by rw [g1, if_neg (by omega), g6]
  have L1 : Lc M1 a g N T2 K := L9.mv m1 no (fun _ z => z.elim) (by rw [x6, gI9, g6]; omega) (by rw [x12, gI9, g12]; omega) ⟨by omega, by omega⟩ (fun r _ => by rw [f1, if_neg (fun z => by omega)])
  have I1 : iF M a g M1 := I9.trans (iF.mk w9 m1 (fun _ z => z.elim) (fun x z => Or.inr (Or.inl (by omega))) (fun i _ _ _ => by rw [aI1]))
  have w1 := m1.2.1
  refine (s_MM_know (d := d + 6) (u := (k : Int) + 1) (i32s (by omega) (by omega)) (i32s (by omega) (by omega)) (i32s (by omega) (by omega)) L1.1 w1 L1.2.2.1.1 L1.2.2.1.2.1 L1.2.2.1.2.2.1 (by omega)).mono (fun M3 t => ?_)
  obtain ⟨o2, m2, lx2, p2, e2, s2, x2⟩ := t
  obtain ⟨L2, gI2, aI2⟩ := L1.kn (by omega) m2 lx2 p2 e2 s2 x2 (by omega) (Or.inl ⟨rfl, by omega, by omega⟩) (fun z => by omega)
  obtain ⟨G2, q30, q32, q34⟩ := ge_kn (R := R) (W := W + 1) (C := C) (Z := Z) (T := T2) w1 hg m2
  have I2 : iF M a g M3 := I1.trans (iF.mk w1 m2 (fun q hq => knP_it hq) (fun _ z => z.elim) (fun i _ _ _ => by rw [aI2]))
  refine ⟨o2, o2, I2, ?_⟩
  have e16 : mI M3 a 16 = mI M2 a 16 := by rw [aI2, aI1]
  by_cases z16 : mI M3 a 16 = 0
  · have u1 := good (by rw [← e16]; exact z16)
    refine Or.inr ⟨by rw [u1], z16, T2, K + 1, R, W + 1, C, Z, (E.1, gWs E.2 (E.2.2.2.2.2.2.1 ++ [(k + 1, 3, bl, (0, 0, 1))]) (E.2.2.2.2.2.2.2.1 ++ [x], E.2.2.2.2.2.2.2.2)), tg, ⟨L2, ⟨by rw [gI2, x6], by rw [gI2, x12]; omega, by rw [gI2, g1, if_neg (by omega), g18], by rw [gI2, g1, if_neg (by omega), g17]⟩, ⟨?_, ?_, ?_⟩, by omega, ?_⟩, ⟨hTe, hZe⟩, ?_, by rw [u1], ?_⟩
    · rw [q30, (m1.lst (n30 hg) (fun z => z)).1, z30, y30]
    · rw [q32, (m1.lst (n32 hg) (fun z => z)).1, z32, y32]
    · rw [q34, (m1.lst (n34 hg) (fun z => z)).1, z34, y34]
    · have hv := hv (by rw [← e16]; exact z16)
      have D8 := (hD.ge G9).tu hT
      have D9 : Dg M2 g R (W + 1) C Z T2 (E.1, gWs E.2 (E.2.2.2.2.2.2.1 ++ [(k + 1, 3, bl, (0, 0, 1))]) (E.2.2.2.2.2.2.2.1 ++ [x], E.2.2.2.2.2.2.2.2)) tg := D8.vu hW rfl (D8.2.2.2.2.2.2.2.vu rfl (hx9 (by rw [← e16]; exact z16))) ⟨hv.1, hv.2.1, hv.2.2.1, hv.2.2.2.1, hv.2.2.2.2, by rw [c18]; exact hb⟩
      have G1 : Ge M2 g R (W + 1) C Z T2 M1 := ge_mv w9 hg m1 no (fun z => z) (fun z => z) (fun z => z) (fun i i1 i2 (z : g + i = g) => by omega) (fun n _ => ⟨(m1.lst (tL_in (q := g + 1) hg (tLk1 g)) (fun z => z)).2.1 n, (m1.lst (tL_in (q := g + 7) hg (tLk7 g)) (fun z => z)).2.1 n, (m1.lst (tL_in (q := g + 9) hg (tLk9 g)) (fun z => z)).2.1 n, (m1.lst (tL_in (q := g + 11) hg (tLk11 g)) (fun z => z)).2.1 n, (m1.lst (tL_in (q := g + 3) hg (tLk3 g)) (fun z => z)).2.1 n⟩)
      exact (D9.ge G1).ge G2
    · have t1 : tn M1 g = tn M2 g := by
        funext v
        unfold tn
        rw [show mI M1 (g + 18) = mI M2 (g + 18) from funext (fun i => by rw [f1, if_neg (fun z => by omega)]), show mI M1 (g + 14) = mI M2 (g + 14) from funext (fun i => by rw [f1, if_neg (fun z => by omega)])]
      have c14 := m2.cellL w1 (fun q hq => knP_in hq) (goffx (i := 14) hg (by decide) (by decide)) (fun z => z)
      have c16 := m2.cellL w1 (fun q hq => knP_in hq) (goffx (i := 16) hg (by decide) (by decide)) (fun z => z)
      have c17 := m2.cellL w1 (fun q hq => knP_in hq) (goffx (i := 17) hg (by decide) (by decide)) (fun z => z)
      have k18 := m2.cellL w1 (fun q hq => knP_in hq) (goffx (i := 18) hg (by decide) (by decide)) (fun z => z)
      have t2 : tn M3 g = tn M1 g := by
        funext v
        unfold tn
        rw [k18.1, c14.1]
      have sx1 : SXq M2 a M1 := (iF.mk (g := g) w9 m1 (fun _ z => z.elim) (fun x z => Or.inr (Or.inl (by omega))) (fun i _ _ _ => by rw [aI1])).sx w9 hg
      have sx2 : SXq M1 a M3 := (iF.mk (g := g) w1 m2 (fun q hq => knP_it hq) (fun _ z => z.elim) (fun i _ _ _ => by rw [aI2])).sx w1 hg
      have l31 : lst3 M2 a M1 := lst3.of m1 (fun _ _ z => z)
      have RS1 : RSq M1 a g K s.1 := RS9.eq (l31.q K) t1 ⟨by rw [l1], by rw [l1]⟩ sx1
      have hWr : vcn s.1 = W := by
        have := hD.2.2.2.2.2.2.2.1.2
        rw [eγ] at this
        exact this
      rw [u1]
      refine RS1.kn (u := k + 1) (e := (k + 1, 3, bl, (0, 0, 1))) p2 t2 ⟨c16.2, c17.2⟩ sx2 (by rw [e2]; omega) s2 x2 rfl rfl ⟨by simp, by simp⟩ ?_ (fun z => absurd z (by simp)) ?_ (fun _ p hp z => ?_) (by rw [hWr]; rfl)
      · show bl = _
        rw [t1, if_pos rfl]
        unfold tn
        rw [if_pos (show (100 : Int) ≤ 100 + (W : Int) by omega), show (100 + (W : Int) - 100).toNat = W by omega, c18]
        rcases hb with z | z <;> rw [z] <;> rfl
      · rw [l31.fd sx1, l2.fd sx9]
        exact hnew
      · rw [(l31.q K p hp).2.1, (l2.q K p hp).2.1] at z
        rw [(l31.q K p hp).2.2, (l2.q K p hp).2.2]
        have nq := (hL.2.2.1.2.2.2.2 p hp).2.1
        rw [g6, g12] at nq
        omega
    · rw [u1, (I2.sx hL.2.1.1.1 hg).tx9]
      show gWs E.2 _ _ = _
      rw [eγ]
      rfl
  · obtain ⟨u1, u2⟩ := flt (by rw [← e16]; exact z16)
    refine Or.inl ⟨u1, ?_, ?_⟩
    · rw [e16]; exact u2.1
    · rw [show mI M3 a 17 = mI M2 a 17 by rw [aI2, aI1]]; exact u2.2
theorem x_vi369 {gm : gm9} {x9 : Int × Int × Int} {k e e9 i : Nat} {l6 l10 : Int} {V : vrs} (eγ : E.2 = txg M a N s.1 gm) (hx9 : mI M2 a 16 = 0 → mI M2 (g + 19) W = x9.1 ∧ mI M2 (g + 20) W = x9.2.1 ∧ x9.2.2 = if l6 ≠ 0 then V.2.1 else x9.1) (h : Df M a g N T K R W C Z E tg) (hS : RSq M a g K s.1) (hW : W < 12) (hk : k + 1 < N) (hi : i < N) (hi1 : l6 ≠ 0 → i + 1 < N) (v2 : vI M a g N T K R W C Z bl T2 M2) (l2 : lst3 M a M2) (hnew : fdn M a K (k + 1) = -1) (hTe : T2 ≤ e) (hZe : Z ≤ e) (hT16 : T2 ≤ 16384) (il6 : i32 l6) (il10 : i32 l10) (hb : bl = 0 ∨ bl = 1) (hv : mI M2 a 16 = 0 → (bl ≠ 0 → mI M2 (g + 19) W = 0 ∧ mI M2 (g + 20) W = 1) ∧ mI M2 (g + 19) W ≤ mI M2 (g + 20) W ∧ -1000000000 < mI M2 (g + 19) W ∧ mI M2 (g + 20) W < 1000000000) (hf : l6 ≠ 0 → ∃ n : Nat, l10 = n ∧ Ctx M2 a g R W T2 (nrq M a (rvn M a K)) (i + 1) e9 n bl) (hfl : l6 ≠ 0 → Eo (wk M a) 6 (i + 1) e9 ∧ (fl (wk M a) (E9 (smx M a) s.1 1) (nt M (a + 7)) 0 (i + 1) e9).1 = 0) (hV : V = vlq (wk M a) (cv9 (wk M a) (nuq M a) (smx M a) s.1) (nt M (a + 7)) 0 0 (i + 1) e9) (flt : mI M2 a 16 ≠ 0 → s'.2.2.1 ≠ 0 ∧ fpw M2 a s'.2.2) (flb : mI M2 a 16 = 0 → l6 ≠ 0 → (bef bl (mI M2 (g + 19) W) (mI M2 (g + 20) W) (nt M (a + 7) (i + 1)) V).1 ≠ 0 → s'.2.2 = (bef bl (mI M2 (g + 19) W) (mI M2 (g + 20) W) (nt M (a + 7) (i + 1)) V)) (good : mI M2 a 16 = 0 → (l6 ≠ 0 → (bef bl (mI M2 (g + 19) W) (mI M2 (g + 20) W) (nt M (a + 7) (i + 1)) V).1 = 0) → s' = (s.1 ++ [(k + 1, 3, bl, (0, 0, 1))], (W + 1, R, C, if tg = -1 then 0 else 1), (0, 0))) : h_MM_varItem_369 G (d + 7) a k W i l6 l10 M2 (fun M' => mOk M' ∧ itX M a g N e s' (gm.1 ++ [x9], gm.2) M') := by
  have hN := h.1.2.1.1.2.2
  have hg := h.1.2.2.2.2.2.1
  have L2 := v2.1
  have w2 := L2.2.1.1.1
  have b14 := (w2.gp hg).2.2.2.2.1.2.1
  have b16 := (w2.gp hg).2.2.2.2.1.2.2.2
  refine k_MM_varItem_369 L2.1 (i32s (by omega) (by omega)) (i32s (by omega) (by omega)) (i32s (by omega) (by omega)) il6 il10 ?_
  rw [show mR M2 a 10 = g from L2.2.2.2.2.1, show mR M2 g 14 = g + 19 from (w2.gp hg).2.2.1.2.1, show mR M2 g 16 = g + 21 from (w2.gp hg).2.2.1.2.2.2.1, Int.toNat_natCast]
  refine ⟨w2.1.1, (w2.gp hg).1, b14.1, by rw [b14.2]; omega, b16.1, by rw [b16.2]; omega, fun M3 e3 => ?_⟩
  obtain ⟨v3, f3, a3⟩ := v2.st (i := 21) (L2.1 _ _).1 (by omega) (by decide) (by decide) e3
  have x3 := lst3.ui (x := 0) (i := 21) L2 (L2.1 _ _).1 (by omega) (by decide) (by decide) e3
  have l3 := l2.trans x3.1
  have c18 : mI M3 (g + 18) W = bl := v3.2.2.2.2.1
  have c19 : mI M3 (g + 19) W = mI M2 (g + 19) W := by rw [f3, if_neg (fun z => by omega)]
  have c20 : mI M3 (g + 20) W = mI M2 (g + 20) W := by rw [f3, if_neg (fun z => by omega)]
  have c21 : mI M3 (g + 21) W = mI M2 (g + 19) W := by rw [f3, if_pos ⟨rfl, rfl⟩]
  have e16 : mI M3 a 16 = mI M2 a 16 := by rw [a3]
  refine ⟨fun q => x_vi410 eγ (fun z => ?_) hb h hS hW hk v3 l3 hnew hTe hZe (fun z => ?_) (fun z => ?_) (fun z => good (by rw [← e16]; exact z) (fun n6 => q.elim (fun y => absurd y n6) (fun y => absurd z y))), fun q => ?_⟩
  · obtain ⟨p1, p2, p3⟩ := hx9 (by rw [← e16]; exact z)
    have l0 : l6 = 0 := q.elim id (fun y => absurd z y)
    rw [if_neg (fun u => u l0)] at p3
    exact ⟨by rw [c19, p1], by rw [c20, p2], by rw [c21, p1, p3]⟩
  · have := hv (by rw [← e16]; exact z)
    rw [c18, c19, c20, c21]
    exact ⟨this.1, by omega, this.2.1, this.2.2.1, this.2.2.2⟩
  · obtain ⟨u1, u2⟩ := flt (by rw [← e16]; exact z)
    exact ⟨u1, by rw [a3]; exact u2.1, by rw [a3]; exact u2.2⟩
  · have q1 : l6 ≠ 0 := fun z => q (Or.inl z)
    have q2 : mI M3 a 16 = 0 := Classical.byContradiction (fun z => q (Or.inr z))
    obtain ⟨n, hn, ct⟩ := hf q1
    subst hn
    obtain ⟨eo, fl0⟩ := hfl q1
    clear hf hfl q
    have g3 := gsti (i := 21) L2 (L2.1 _ _).1 (by omega) (by decide) (by decide) (fun z => by omega) e3
    have hv := hv (by rw [← e16]; exact q2)
    have ct3 : Ctx M3 a g R W T2 (nrq M a (rvn M a K)) (i + 1) e9 n bl := ct.gn (ge_st (R := R) (W := W) (C := C) (Z := Z) (T := T2) hg g3.2.2.2.1 f3 (by rw [e3]; rfl) (by omega) (fun _ _ => Nat.le_refl W) (by omega) (by omega)).1 h.2.2.2.2.1.1 (g3.2.1.sx w2 hg) (fun n _ => x3.2 n)
    rw [show (i : Int) + 1 = ((i + 1 : Nat) : Int) by omega]
    refine (x_MM_begins (d := d + 1) v3.1 (v3.ev h.2.2.2.2 hT16) q2 ct3 hW (fun z => by omega) (fun z => by omega) (hi1 q1)).mono (fun M4 t4 => ⟨t4.1, ?_⟩)
    obtain ⟨-, M5, x, E5, ix, e4, hx, hbx⟩ := t4
    rw [c18, c19, c20, (v3.sx h.1.2.1.1.1).2.1, vI.vl h hS v3 l3 eo fl0, ← hV] at hbx
    have v5 := v3.eo E5
    obtain ⟨v4, f4, a4⟩ := v5.st (i := 21) ix (by omega) (by decide) (by decide) e4
    have l4 := (l3.trans (lst3.eo E5)).trans (lst3.ui (x := 0) (i := 21) v5.1 ix (by omega) (by decide) (by decide) e4).1
    have w3 := v3.1.2.1.1.1
    have hin : ∀ q, q = a + 99 → q ∈ nums a := fun q hq => by rw [hq]; exact n99
    have keep : ∀ (j : Nat), j ≤ 29 → frO (13 + j) → frO (49 + j) → mI M5 (g + j) = mI M3 (g + j) := fun j j1 f1 f2 => (E5.1.cellL w3 hin (goffx hg f1 f2) (fun z => by
      have : g + j = a ∨ g + j = a + 97 ∨ g + j = a + 98 ∨ g + j = a + 102 ∨ g + j = a + 103 ∨ g + j = a + 104 := z
      omega)).1
    have d18 : mI M4 (g + 18) W = bl := v4.2.2.2.2.1
    have d19 : mI M4 (g + 19) W = mI M2 (g + 19) W := by rw [f4, if_neg (fun z => by omega), keep 19 (by omega) (by decide) (by decide), c19]
    have d20 : mI M4 (g + 20) W = mI M2 (g + 20) W := by rw [f4, if_neg (fun z => by omega), keep 20 (by omega) (by decide) (by decide), c20]
    have d21 : mI M4 (g + 21) W = x := by rw [f4, if_pos ⟨rfl, rfl⟩]
    have z2 : mI M2 a 16 = 0 := by rw [← e16]; exact q2
    refine x_vi410 (x := x9) eγ (fun z => ?_) hb h hS hW hk v4 l4 hnew hTe hZe (fun z => ?_) (fun z => ?_) (fun z => ?_)
    · obtain ⟨p1, p2, p3⟩ := hx9 z2
      rw [if_pos q1] at p3
      rcases hbx with ⟨y1, y2⟩ | ⟨y1, y2, y3⟩
      · rw [a4, y2.1] at z; exact absurd z y1
      · exact ⟨by rw [d19, p1], by rw [d20, p2], by rw [d21, p3, y3]⟩
    rotate_left
    · rcases hbx with ⟨y1, y2⟩ | ⟨y1, y2, -⟩
      · rw [flb z2 q1 y1]
        exact ⟨y1, by rw [a4]; exact y2.1, by rw [a4]; exact y2.2⟩
      · rw [a4] at z; exact absurd y2 z
    · rcases hbx with ⟨y1, y2⟩ | ⟨y1, y2, -⟩
      · rw [a4, y2.1] at z; exact absurd z y1
      · exact good z2 (fun _ => y1)
    have hx := hx (by rw [← a4]; exact z)
    rw [c18, c19, c20] at hx
    rw [d18, d19, d20, d21]
    refine ⟨hv.1, ?_, ?_, hv.2.2.1, hv.2.2.2⟩
    · rcases hb with y | y
      · exact (hx.1 y).1
      · have := hx.2 (by omega); have := hv.1 (by omega); omega
    · rcases hb with y | y
      · exact (hx.1 y).2
      · have := hx.2 (by omega); have := hv.1 (by omega); omega
end VXB
end
