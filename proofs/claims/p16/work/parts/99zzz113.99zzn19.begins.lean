/-! The reference's vars, exactly: first values, and what is kept inside a var. -/
section VXA
variable {G : mG} {d a g R W C Z T T2 T3 N K : Nat} {M M2 M3 : mM} {E : Eg9} {tg bl : Int} {s s' : st9} {nv : Nat → Int}
/-- the fault of a first value -/
def bef (bl lo hi p : Int) (x : vrs) : Int × Int := if bl ≠ 0 then wh9 x p else fst9 (wh9 x p) (if lo ≤ x.2.1 ∧ x.2.1 ≤ hi then (0, 0) else (9, p))
/-- a first value is told, or its fault -/
def beX (M : mM) (a g R W T v : Nat) (V : vrs) (b : Int × Int) (M' : mM) : Prop := ∃ (M1 : mM) (x : Int), EO False M a g R W T M1 ∧ i32 x ∧ M' = mUI M1 (g + 21) v x ∧ (mI M1 a 16 = 0 → (mI M (g + 18) v = 0 → mI M (g + 19) v ≤ x ∧ x ≤ mI M (g + 20) v) ∧ (mI M (g + 18) v ≠ 0 → 0 ≤ x ∧ x ≤ 1)) ∧ ((b.1 ≠ 0 ∧ fpw M1 a b) ∨ (b.1 = 0 ∧ mI M1 a 16 = 0 ∧ x = V.2.1))
theorem x_MM_begins {n wd v i j : Nat} {t : Int} (hL : Lc M a g N T K) (h : Ev False M a g R W T) (h16 : mI M a 16 = 0) (ht : Ctx M a g R W T nv i j n t) (hv : v < 12) (ht1 : mI M (g + 18) v ≠ 0 → t = 1) (ht0 : mI M (g + 18) v = 0 → t = 0) (hwd : wd < N) : Cv G y_MM_begins (d + 6) [vr a, vi v, vi n, vi wd] M (fun M' => mOk M' ∧ beX M a g R W T v (vlM M a g nv (i, j)) (bef (mI M (g + 18) v) (mI M (g + 19) v) (mI M (g + 20) v) (nt M (a + 7) wd) (vlM M a g nv (i, j))) M') := by
  obtain ⟨eo, f, e, hty, he, tm⟩ := id ht
  have w := h.2.1
  have hg := h.2.2.1
  have hN := hL.2.1.1.2.2
  have hlt := hty.tn.lt
  have hB := h.2.2.2.2.1
  have hin : ∀ q, q = a + 99 → q ∈ nums a := fun q hq => by rw [hq]; exact n99
  have keep : ∀ (M1 : mM) (i : Nat), EO False M a g R W T M1 → i ≤ 29 → frO (13 + i) → frO (49 + i) → mI M1 (g + i) = mI M (g + i) := fun M1 i k i1 f1 f2 => (k.1.cellL w hin (goffx hg f1 f2) (fun z => by
    have : g + i = a ∨ g + i = a + 97 ∨ g + i = a + 98 ∨ g + i = a + 102 ∨ g + i = a + 103 ∨ g + i = a + 104 := z
    omega)).1
  refine k_MM_begins2 h.1 (i32s (by omega) (by omega)) (i32s (by omega) (by omega)) (i32s (by omega) (by omega)) ?_
  have b13 := (w.gp hg).2.2.2.2.1.1
  rw [show mR M a 10 = g from hL.2.2.2.2.1, show mR M g 13 = g + 18 from (w.gp hg).2.2.1.1, Int.toNat_natCast]
  refine ⟨w.1.1, (w.gp hg).1, b13.1, by rw [b13.2]; omega, fun z0 => ?_, fun z0 => ?_⟩
  · have t0 := ht0 z0
    subst t0
    refine (x_MM_wholeOf (d := d) hL h ht hwd).mono (fun x M7 t7 => ?_)
    obtain ⟨ix, o7, E7, v7, x7, -⟩ := t7
    have x7 := x7 h16
    unfold whX at x7
    generalize vlM M a g nv (i, j) = v9 at x7 ⊢
    have bz : bef (mI M (g + 18) v) (mI M (g + 19) v) (mI M (g + 20) v) (nt M (a + 7) wd) v9 = fst9 (wh9 v9 (nt M (a + 7) wd)) (if mI M (g + 19) v ≤ v9.2.1 ∧ v9.2.1 ≤ mI M (g + 20) v then (0, 0) else (9, nt M (a + 7) wd)) := if_neg (fun z => z z0)
    rw [bz]
    have w7 := E7.1.2.1
    have L7 := (E7.lc (R := R) (W := W) (C := 0) (Z := 0) hL).1
    have b14 := (w7.gp hg).2.2.2.2.1.2.1
    have b15 := (w7.gp hg).2.2.2.2.1.2.2.1
    have b16 := (w7.gp hg).2.2.2.2.1.2.2.2
    rw [show mR M7 a 10 = g from L7.2.2.2.2.1, show mR M7 g 14 = g + 19 from (w7.gp hg).2.2.1.2.1, show mR M7 g 15 = g + 20 from (w7.gp hg).2.2.1.2.2.1, show mR M7 g 16 = g + 21 from (w7.gp hg).2.2.1.2.2.2.1, keep M7 19 E7 (by omega) (by decide) (by decide), keep M7 20 E7 (by omega) (by decide) (by decide)]
    refine ⟨ix, o7, w7.1.1, fun _ => ⟨(w7.gp hg).1, b14.1, by rw [b14.2]; omega, fun _ => ⟨b15.1, by rw [b15.2]; omega⟩⟩, fun q => ?_, fun q => ⟨(w7.gp hg).1, b16.1, by rw [b16.2]; omega, fun M8 e8 => ⟨by rw [e8]; exact mOk_UI o7 ix, M7, x, E7, ix, e8, fun y16 => ⟨fun _ => by omega, fun y => absurd z0 y⟩, by
      rcases x7 with ⟨y1, y2⟩ | ⟨y1, y2, y3⟩
      · rw [fst9_l y1]; exact Or.inl ⟨y1, y2⟩
      · rw [fst9_r y1, if_pos ⟨by omega, by omega⟩]; exact Or.inr ⟨rfl, y2, y3⟩⟩⟩⟩
    refine (s_MM_place0 (d := d + 4) o7 L7.2.1 hwd).mono (fun y M8 h8 => ?_)
    obtain ⟨e8, hy⟩ := h8
    subst e8
    have hy32 : i32 y := by rw [hy]; exact (o7 _ _).1
    refine ⟨hy32, o7, w7.1.1, (s_MM_stop ⟨by omega, by omega⟩ hy32 o7 w7).mono (fun M9 h9 => ?_)⟩
    obtain ⟨m9, f1, f2, f3⟩ := h9
    have w9 := m9.2.1
    have E9 := E7.step m9 (fun _ z => z.elim) (fun x z => Or.inl z) (fun i i1 i2 _ => f3 i i1 i2)
    have L9 := (E9.lc (R := R) (W := W) (C := 0) (Z := 0) hL).1
    have c16 := (w9.gp hg).2.2.2.2.1.2.2.2
    rw [show mR M9 a 10 = g from L9.2.2.2.2.1, show mR M9 g 16 = g + 21 from (w9.gp hg).2.2.1.2.2.2.1]
    exact ⟨m9.1, w9.1.1, (w9.gp hg).1, c16.1, by rw [c16.2]; omega, fun M10 e10 => ⟨by rw [e10]; exact mOk_UI m9.1 ix, M9, x, E9, ix, e10, fun y16 => by rw [f1] at y16; exact absurd y16 (by decide), by
      rcases x7 with ⟨y1, y2⟩ | ⟨y1, y2, y3⟩
      · exact absurd (y2.1.symm.trans q.1) y1
      · have p7 : nt M8 (a + 7) wd = nt M (a + 7) wd := (E7.1.lst n7 (by omega)).2.1 wd
        rw [fst9_r y1, if_neg (fun z => by omega)]
        exact Or.inl ⟨by simp, f1, by rw [f2, hy, p7]⟩⟩⟩
  · have t1 := ht1 z0
    subst t1
    refine (x_MM_workOut (d := d + 1) (b := R) (F := False) (fun z => z) h (Nat.le_refl _) eo tm hty he).mono (fun M4 t4 => ?_)
    obtain ⟨o4, ⟨E4, v4⟩, x4⟩ := t4
    have bz : ∀ x : vrs, bef (mI M (g + 18) v) (mI M (g + 19) v) (mI M (g + 20) v) (nt M (a + 7) wd) x = wh9 x (nt M (a + 7) wd) := fun x => if_pos z0
    rw [bz]
    generalize vlM M a g nv (i, j) = v9 at x4 ⊢
    have w4 := E4.1.2.1
    have L4 := (E4.lc (R := R) (W := W) (C := 0) (Z := 0) hL).1
    have c16 := (w4.gp hg).2.2.2.2.1.2.2.2
    rw [show mR M4 a 10 = g from L4.2.2.2.2.1, show mR M4 g 16 = g + 21 from (w4.gp hg).2.2.1.2.2.2.1, show mR M4 a 21 = a + 97 from (w4.1.2.2.2.2.1.2.2.2.2.2.2).1]
    refine ⟨o4, w4.1.1, (w4.gp hg).1, (w4.1.2.2.2.2.2.2.2.1).1.1, by rw [(w4.1.2.2.2.2.2.2.2.1).1.2]; omega, c16.1, by rw [c16.2]; omega, fun M5 e5 => ⟨by rw [e5]; exact mOk_UI o4 i32_w32, M4, _, E4, i32_w32, e5, fun y16 => ⟨fun y => absurd y z0, fun _ => ?_⟩, ?_⟩⟩
    · rcases v4 with y | ⟨-, y⟩
      · exact absurd y16 y
      · unfold vok at y
        rw [w32_id ⟨by omega, by omega⟩]
        omega
    · unfold wh9
      rcases x4 with y | y | ⟨y16, y⟩
      · exact absurd h16 y
      · rw [if_pos y.1]
        exact Or.inl ⟨y.1, y.2.1, y.2.2⟩
      · have vk : vok 1 (mL M4 (a + 97) 0) (mL M4 (a + 98) 0) := by
          rcases v4 with q | ⟨-, q⟩
          · exact absurd y16 q
          · exact q
        unfold vok at vk
        rw [y]
        refine Or.inr ⟨rfl, y16, ?_⟩
        rw [w32_id ⟨by omega, by omega⟩]
        rfl
/-- the rule's root, and its tree -/
theorem rl_ctx {i j : Nat} {t : Int} {rv : Nat → Int} (hL : Lc M2 a g N T2 K) (g6 : mI M2 g 6 = R) (hR : R ≤ 60) (eo : Eo (wk M2 a) 6 i j) (h : rlR 1 M2 a g N T2 K T3 t M3) (z : mI M3 a 16 = 0) (hp : ∀ n, n < T2 → pm M3 g n = pm M2 g n) (tm : Tmr M2 M3 a g rv i j T2 T3) : Ctx M3 a g R W T3 (nrq M2 a rv) i j T2 t := by
  have G3 := (rlR.ge (R := R) (W := W) (C := 0) (Z := 0) hL h).2.1 z hp
  have sx := (rlR.ge (R := R) (W := W) (C := 0) (Z := 0) hL h).1.sx hL.2.1.1.1 hL.2.2.2.2.2.1
  refine ⟨by rw [sx.1]; exact eo, ?_⟩
  rcases h.2.2.2.2.2 with y | ⟨-, ⟨f, ty⟩, -⟩
  · exact absurd z y
  · refine ⟨f, T3, ty.mono (fun v hv => ?_), Nat.le_refl _, by rw [sx.1, sx.2.1]; exact tm⟩
    unfold nmr at hv
    rw [g6] at hv
    rcases hv with ⟨h1, h2, h3, h4⟩ | ⟨h1, -⟩
    · have gt := G3.1.tr (r := v.toNat) hR (by omega)
      rw [show ((v.toNat : Nat) : Int) = v by omega] at gt
      refine ⟨Or.inl ⟨h1, h2, Or.inr ?_⟩, gt⟩
      rw [(G3.1.2.1 v.toNat (by omega)).1]
      exact h4 (by decide)
    · exact absurd h1 (by decide)
/-- the names inside a var -/
theorem vI.sx (w : Wd M a) (v : vI M a g N T K R W C Z bl T2 M2) : SXq M a M2 := v.2.1.sx w v.1.2.2.2.2.2.1
theorem vI.rs (h : Df M a g N T K R W C Z E tg) (hS : RSq M a g K s.1) (v : vI M a g N T K R W C Z bl T2 M2) (h3 : lst3 M a M2) : RSq M2 a g K s.1 := hS.ge h.1.2.2.1 h.2.1.1 h.2.1.2.1 h.2.2.2.2.1.1 v.2.2.2.2.2.2 (v.sx h.1.2.1.1.1) (h3.q K)
theorem vI.ern (h : Df M a g N T K R W C Z E tg) (hS : RSq M a g K s.1) (v : vI M a g N T K R W C Z bl T2 M2) (h3 : lst3 M a M2) : Ern M2 a g K 1 = Ern M a g K 1 := by
  rw [(vI.rs h hS v h3).en (Or.inr rfl), hS.en (Or.inr rfl), (v.sx h.1.2.1.1.1).sm]
theorem vI.nr (h : Df M a g N T K R W C Z E tg) (v : vI M a g N T K R W C Z bl T2 M2) (h3 : lst3 M a M2) : nrq M2 a (rvn M2 a K) = nrq M a (rvn M a K) := by
  have sx := v.sx h.1.2.1.1.1
  funext y
  unfold nrq
  rw [sx.1, sx.nv, h3.rv sx]
/-- a rule of consts is worth what the text says -/
theorem vI.vl {i j : Nat} (h : Df M a g N T K R W C Z E tg) (hS : RSq M a g K s.1) (v : vI M a g N T K R W C Z bl T2 M2) (h3 : lst3 M a M2) (he6 : Eo (wk M a) 6 i j) (hfl : (fl (wk M a) (E9 (smx M a) s.1 1) (nt M (a + 7)) 0 i j).1 = 0) : vlM M2 a g (nrq M a (rvn M a K)) (i, j) = vlq (wk M a) (cv9 (wk M a) (nuq M a) (smx M a) s.1) (nt M (a + 7)) 0 0 i j := by
  have sx := v.sx h.1.2.1.1.1
  have RS := vI.rs h hS v h3
  have en := vI.ern h hS v h3
  rw [← vI.nr h v h3]
  show vlq (wk M2 a) (cvq M2 a g (nrq M2 a (rvn M2 a K))) (nt M2 (a + 7)) 0 0 i j = _
  rw [sx.1, sx.2.1]
  refine vl_cg0 (E := Ern M a g K 1) (fun y y1 y2 => ?_) he6 (by rw [hS.en (Or.inr rfl)]; exact hfl)
  rw [RS.cv (by rw [sx.1, en]; exact y2), sx.1, sx.nu, sx.sm]
/-- what the lists of names do -/
theorem lst3.rl {co t : Int} (hg : g = a + 13 ∨ g = a + 49) (q : rlR co M2 a g N T2 K T3 t M3) : lst3 M2 a M3 := lst3.of q.1 (fun i hi z => by
    have z' : ((a + i = g + 1 ∨ a + i = g + 3 ∨ a + i = g + 5 ∨ a + i = g + 7 ∨ a + i = g + 9 ∨ a + i = g + 11) ∨ a + i = a + 91) ∨ (a + i = a + 93 ∨ a + i = a + 95 ∨ a + i = g + 7) := z
    first | exact l33z hg hi z' | omega)
theorem lst3.eo {F : Prop} {R' W' T' : Nat} (k : EO F M2 a g R' W' T' M3) : lst3 M2 a M3 := lst3.of k.1 (fun i hi z => by omega)
theorem lst3.ui {x : Nat} {v : Int} (h : Lc M2 a g N T2 K) (hv : i32 v) {i : Nat} (hi : 18 ≤ i ∧ i ≤ 21) (f1 : frO (13 + i)) (f2 : frO (49 + i)) (e : M3 = mUI M2 (g + i) W v) : lst3 M2 a M3 ∧ ∀ n, pm M3 g n = pm M2 g n := by
  obtain ⟨-, -, -, m3, -, -⟩ := gsti h hv (by omega) f1 f2 (fun z => by omega) e
  exact ⟨lst3.of m3 (fun _ _ z => z), fun n => (m3.lst (tL_in (q := g + 3) h.2.2.2.2.2.1 (by omega)) (fun z => z)).2.1 n⟩
theorem lst3.sp {c p : Int} (hg : g = a + 13 ∨ g = a + 49) (q : Mv (fun _ => False) (fun x => x = a) M2 a M3 ∧ mI M3 a 16 = c ∧ mI M3 a 17 = p ∧ ∀ i, i ≠ 16 → i ≠ 17 → mI M3 a i = mI M2 a i) : lst3 M2 a M3 ∧ ∀ n, pm M3 g n = pm M2 g n := ⟨lst3.of q.1 (fun _ _ z => z), fun n => (q.1.lst (tL_in (q := g + 3) hg (tLk3 g)) (fun z => z)).2.1 n⟩
end VXA
