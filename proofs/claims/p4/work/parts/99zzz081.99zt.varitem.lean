/-! The reference: whole numbers and first values of variables. -/
section VI
variable {G : mG} {d a g R W C Z T N K : Nat} {M M2 M3 : mM} {E : Nat → Nat} {F : Prop}
theorem rwd_all {w : Nat → Int} {c i j m : Nat} (h : Eo w c i j) (h1 : i ≤ m) (h2 : m < j) : rwd (w m) := by
  have := (h.pr.2.2.2.2.1.2.2.2 (m - i) (by omega)).1
  rw [show i + (m - i) = m by omega] at this
  exact this
theorem s_MM_initOf {p i e : Nat} (h : Lc M a g N T K) (h1 : p ≤ i) (h2 : i ≤ e) (he : e < N) (hn : ∀ m, p ≤ m → m < i → wk M a m ≠ 9) (hi : i = e ∨ wk M a i = 9) : Ci G y_MM_initOf (d + 2) [vr a, vi p, vi e] M (fun x M' => M' = M ∧ x = i) := by
  have hN := h.2.1.1.2.2
  have w := h.2.1.1.1
  refine k_MM_initOf h.1 (i32s (by omega) (by omega)) (i32s (by omega) (by omega)) ?_
  suffices H : ∀ (c m : Nat), m + c = i → p ≤ m → h_MM_initOf_2 G (d + 1) a e m M (fun x M' => M' = M ∧ x = i) from H (i - p) p (by omega) (Nat.le_refl _)
  intro c
  induction c with
  | zero =>
    intro m hm hp
    have e1 : m = i := by omega
    subst e1
    refine k_MM_initOf_2 h.1 (i32s (by omega) (by omega)) (i32s (by omega) (by omega)) ⟨fun _ => ⟨rfl, rfl⟩, fun q => ⟨w.1.1, h.wd (d := d) (by omega) (fun z hz iz => ⟨iz, h.1, fun _ => ⟨rfl, rfl⟩, fun q2 => ?_⟩)⟩⟩
    rcases hi with y | y
    · omega
    · exact absurd (hz.trans y) q2
  | succ c ih =>
    intro m hm hp
    refine k_MM_initOf_2 h.1 (i32s (by omega) (by omega)) (i32s (by omega) (by omega)) ⟨fun q => by omega, fun q => ⟨w.1.1, h.wd (d := d) (by omega) (fun z hz iz => ⟨iz, h.1, fun q2 => absurd (hz.symm.trans q2) (hn m hp (by omega)), fun q2 => ?_⟩)⟩⟩
    have := ih (m + 1) (by omega) (by omega)
    rw [show ((m + 1 : Nat) : Int) = (m : Int) + 1 by omega] at this
    exact this
theorem nme.wk {v : Int} {b : Nat} (h : nme F M g b W v) : nme True M g b W v := by
  rcases h with ⟨h1, h2, -⟩ | ⟨-, h⟩
  · exact Or.inl ⟨h1, h2, Or.inl trivial⟩
  · exact Or.inr ⟨trivial, h⟩
theorem Gn.nm {v : Int} {b : Nat} (h : Gn M g R W T M2) (hb : b ≤ R) (hv : nme F M g b W v) : nme F M2 g b W v := by
  rcases hv with ⟨h1, h2, h3⟩ | h'
  · refine Or.inl ⟨h1, h2, h3.imp (fun z => z) (fun z => ?_)⟩
    rw [(h.2.1 v.toNat (by omega)).1]
    exact z
  · exact Or.inr h'
/-- a rule made of constants alone -/
def Cte (M : mM) (g R W T n : Nat) (t : Int) : Prop := ∃ f e : Nat, Ty (nme False M g R W) (tn M g) M g f 0 n e (fun _ => t) ∧ e ≤ T
theorem Cte.gn {n : Nat} {t : Int} (h : Cte M g R W T n t) (k : Gn M g R W T M2) (hR : R ≤ 60) : Cte M2 g R W T n t := by
  obtain ⟨f, e, h1, h2⟩ := h
  exact ⟨f, e, (h1.mono (nm' := nme False M2 g R W) (w' := tn M2 g) (fun v hv => ⟨k.nm (Nat.le_refl _) hv, k.tnm hR hv.wk (Nat.le_refl _)⟩)).fr (fun n _ n2 => ⟨(k.1 n (by omega)).1, (k.1 n (by omega)).2.1, (k.1 n (by omega)).2.2.1⟩) (fun n _ n2 => (k.1 n (by omega)).2.2.2) (fun z => absurd rfl z), h2⟩
theorem Cte.up {n T' : Nat} {t : Int} (h : Cte M g R W T n t) (hT : T ≤ T') : Cte M g R W T' n t := by
  obtain ⟨f, e, h1, h2⟩ := h
  exact ⟨f, e, h1, by omega⟩
theorem s_MM_wholeOf {n wd : Nat} (hL : Lc M a g N T K) (h : Ev False M a g R W T) (ht : Cte M g R W T n 0) (hwd : wd < N) : Ci G y_MM_wholeOf (d + 5) [vr a, vi n, vi wd] M (fun x M' => i32 x ∧ mOk M' ∧ EO False M a g R W T M' ∧ (mI M' a 16 = 0 → mI M a 16 = 0 ∧ -1000000000 < x ∧ x < 1000000000)) := by
  obtain ⟨f, e, ht, he⟩ := ht
  have w := h.2.1
  have hN := hL.2.1.1.2.2
  have hlt := ht.tn.lt
  have hB := h.2.2.2.2.1
  refine k_MM_wholeOf2 h.1 (i32s (by omega) (by omega)) (i32s (by omega) (by omega)) ⟨w.1.1, fun z16 => ?_, fun z16 => ⟨⟨by omega, by omega⟩, h.1, EO.refl h, fun q => absurd q z16⟩⟩
  rw [show mR M a 10 = g from hL.2.2.2.2.1]
  refine (s_MM_workOut (d := d) (E := fun _ => 0) (b := R) h (fun z => z.elim) (Nat.le_refl _) (fun _ _ _ => by omega) ht he).mono (fun M4 t4 => ?_)
  obtain ⟨o4, E4, v4⟩ := t4
  have w4 := E4.1.2.1
  have L4 := (E4.lc (R := R) (W := W) (C := 0) (Z := 0) hL).1
  rw [show mR M4 a 22 = a + 98 from (w4.1.2.2.2.2.1.2.2.2.2.2.2).2.1, show mR M4 a 21 = a + 97 from (w4.1.2.2.2.2.1.2.2.2.2.2.2).1]
  refine ⟨o4, w4.1.1, fun _ => ⟨(w4.1.2.2.2.2.2.2.2.1).2.1.1, by rw [(w4.1.2.2.2.2.2.2.2.1).2.1.2]; omega⟩, fun q => ⟨(w4.1.2.2.2.2.2.2.2.1).1.1, by rw [(w4.1.2.2.2.2.2.2.2.1).1.2]; omega, i32_w32, o4, E4, fun y16 => ⟨z16, ?_⟩⟩, fun q => ?_⟩
  · rcases v4 with y | ⟨-, y⟩
    · exact absurd y16 y
    · unfold vok at y
      rw [w32_id ⟨by omega, by omega⟩]
      omega
  · refine (s_MM_place0 (d := d + 3) o4 L4.2.1 hwd).mono (fun y M5 h5 => ?_)
    obtain ⟨e5, hy⟩ := h5
    subst e5
    have hy32 : i32 y := by rw [hy]; exact (o4 _ _).1
    refine ⟨hy32, o4, w4.1.1, (s_MM_stop ⟨by omega, by omega⟩ hy32 o4 w4).mono (fun M6 h6 => ?_)⟩
    obtain ⟨m6, f1, f2, f3⟩ := h6
    have w6 := m6.2.1
    rw [show mR M6 a 21 = a + 97 from (w6.1.2.2.2.2.1.2.2.2.2.2.2).1]
    exact ⟨m6.1, w6.1.1, (w6.1.2.2.2.2.2.2.2.1).1.1, by rw [(w6.1.2.2.2.2.2.2.2.1).1.2]; omega, i32_w32, m6.1, E4.step m6 (fun _ z => z.elim) (fun x z => Or.inl z) (fun i i1 i2 _ => f3 i i1 i2), fun q => by rw [f1] at q; exact absurd q (by decide)⟩
/-- a variable's first value is told -/
def beQ (M : mM) (a g R W T v : Nat) (M' : mM) : Prop := ∃ (M1 : mM) (x : Int), EO False M a g R W T M1 ∧ i32 x ∧ M' = mUI M1 (g + 21) v x ∧ (mI M1 a 16 = 0 → (mI M (g + 18) v = 0 → mI M (g + 19) v ≤ x ∧ x ≤ mI M (g + 20) v) ∧ (mI M (g + 18) v ≠ 0 → 0 ≤ x ∧ x ≤ 1))
theorem s_MM_begins {n wd v : Nat} {t : Int} (hL : Lc M a g N T K) (h : Ev False M a g R W T) (ht : Cte M g R W T n t) (hv : v < 12) (ht1 : mI M (g + 18) v ≠ 0 → t = 1) (ht0 : mI M (g + 18) v = 0 → t = 0) (hwd : wd < N) : Cv G y_MM_begins (d + 6) [vr a, vi v, vi n, vi wd] M (fun M' => mOk M' ∧ beQ M a g R W T v M') := by
  obtain ⟨f, e, hty, he⟩ := id ht
  have w := h.2.1
  have hg := h.2.2.1
  have hN := hL.2.1.1.2.2
  have hlt := hty.tn.lt
  have hB := h.2.2.2.2.1
  have hin : ∀ q, q = a + 99 → q ∈ nums a := fun q hq => by rw [hq]; exact n99
  have keep : ∀ (M1 : mM) (i : Nat), EO False M a g R W T M1 → i ≤ 29 → frO (13 + i) → frO (49 + i) → mI M1 (g + i) = mI M (g + i) := fun M1 i k i1 f1 f2 => (k.1.cellL w hin (goffx hg f1 f2) (fun z => by
    have : g + i = a ∨ g + i = a + 97 ∨ g + i = a + 98 ∨ g + i = a + 102 ∨ g + i = a + 103 ∨ g + i = a + 104 := z
    omega)).1
  refine k_MM_begins2 h.1 (i32s (by omega) (by omega)) (i32s (by omega) (by omega)) (i32s (by omega) (by omega)) ?_
  have b13 := (w.gp hg).2.2.2.2.1.1
  rw [show mR M a 10 = g from hL.2.2.2.2.1, show mR M g 13 = g + 18 from (w.gp hg).2.2.1.1, Int.toNat_natCast]
  refine ⟨w.1.1, (w.gp hg).1, b13.1, by rw [b13.2]; omega, fun z0 => ?_, fun z0 => ?_⟩
  · have t0 := ht0 z0
    subst t0
    refine (s_MM_wholeOf (d := d) hL h ht hwd).mono (fun x M7 t7 => ?_)
    obtain ⟨ix, o7, E7, v7⟩ := t7
    have w7 := E7.1.2.1
    have L7 := (E7.lc (R := R) (W := W) (C := 0) (Z := 0) hL).1
    have b14 := (w7.gp hg).2.2.2.2.1.2.1
    have b15 := (w7.gp hg).2.2.2.2.1.2.2.1
    have b16 := (w7.gp hg).2.2.2.2.1.2.2.2
    rw [show mR M7 a 10 = g from L7.2.2.2.2.1, show mR M7 g 14 = g + 19 from (w7.gp hg).2.2.1.2.1, show mR M7 g 15 = g + 20 from (w7.gp hg).2.2.1.2.2.1, show mR M7 g 16 = g + 21 from (w7.gp hg).2.2.1.2.2.2.1, keep M7 19 E7 (by omega) (by decide) (by decide), keep M7 20 E7 (by omega) (by decide) (by decide)]
    refine ⟨ix, o7, w7.1.1, fun _ => ⟨(w7.gp hg).1, b14.1, by rw [b14.2]; omega, fun _ => ⟨b15.1, by rw [b15.2]; omega⟩⟩, fun q => ?_, fun q => ⟨(w7.gp hg).1, b16.1, by rw [b16.2]; omega, fun M8 e8 => ⟨by rw [e8]; exact mOk_UI o7 ix, M7, x, E7, ix, e8, fun y16 => ⟨fun _ => by omega, fun y => absurd z0 y⟩⟩⟩⟩
    refine (s_MM_place0 (d := d + 4) o7 L7.2.1 hwd).mono (fun y M8 h8 => ?_)
    obtain ⟨e8, hy⟩ := h8
    subst e8
    have hy32 : i32 y := by rw [hy]; exact (o7 _ _).1
    refine ⟨hy32, o7, w7.1.1, (s_MM_stop ⟨by omega, by omega⟩ hy32 o7 w7).mono (fun M9 h9 => ?_)⟩
    obtain ⟨m9, f1, f2, f3⟩ := h9
    have w9 := m9.2.1
    have E9 := E7.step m9 (fun _ z => z.elim) (fun x z => Or.inl z) (fun i i1 i2 _ => f3 i i1 i2)
    have L9 := (E9.lc (R := R) (W := W) (C := 0) (Z := 0) hL).1
    have c16 := (w9.gp hg).2.2.2.2.1.2.2.2
    rw [show mR M9 a 10 = g from L9.2.2.2.2.1, show mR M9 g 16 = g + 21 from (w9.gp hg).2.2.1.2.2.2.1]
    exact ⟨m9.1, w9.1.1, (w9.gp hg).1, c16.1, by rw [c16.2]; omega, fun M10 e10 => ⟨by rw [e10]; exact mOk_UI m9.1 ix, M9, x, E9, ix, e10, fun y16 => by rw [f1] at y16; exact absurd y16 (by decide)⟩⟩
  · have t1 := ht1 z0
    subst t1
    refine (s_MM_workOut (d := d + 1) (E := fun _ => 0) (b := R) h (fun z => z.elim) (Nat.le_refl _) (fun _ _ _ => by omega) hty he).mono (fun M4 t4 => ?_)
    obtain ⟨o4, E4, v4⟩ := t4
    have w4 := E4.1.2.1
    have L4 := (E4.lc (R := R) (W := W) (C := 0) (Z := 0) hL).1
    have c16 := (w4.gp hg).2.2.2.2.1.2.2.2
    rw [show mR M4 a 10 = g from L4.2.2.2.2.1, show mR M4 g 16 = g + 21 from (w4.gp hg).2.2.1.2.2.2.1, show mR M4 a 21 = a + 97 from (w4.1.2.2.2.2.1.2.2.2.2.2.2).1]
    refine ⟨o4, w4.1.1, (w4.gp hg).1, (w4.1.2.2.2.2.2.2.2.1).1.1, by rw [(w4.1.2.2.2.2.2.2.2.1).1.2]; omega, c16.1, by rw [c16.2]; omega, fun M5 e5 => ⟨by rw [e5]; exact mOk_UI o4 i32_w32, M4, _, E4, i32_w32, e5, fun y16 => ⟨fun y => absurd y z0, fun _ => ?_⟩⟩⟩
    rcases v4 with y | ⟨-, y⟩
    · exact absurd y16 y
    · unfold vok at y
      rw [w32_id ⟨by omega, by omega⟩]
      omega
end VI
