/-! The reference's vars, exactly: whole numbers, first values. -/
section VIX
variable {G : mG} {d a g R W C Z T N K : Nat} {M M2 M3 : mM} {E : Eg9} {nv : Nat → Int}
/-- a rule made of constants alone, and which words it stands for -/
def Ctx (M : mM) (a g R W T : Nat) (nv : Nat → Int) (i j n : Nat) (t : Int) : Prop := Eo (wk M a) 6 i j ∧ ∃ f e : Nat, Ty (nme False M g R W) (tn M g) M g f 0 n e (fun _ => t) ∧ e ≤ T ∧ Td (wk M a) (nt M (a + 7)) nv (so M g) (pm M g) (va M g) (fp M g) (np M g) 0 0 i j n e
theorem Ctx.gn {i j n : Nat} {t : Int} (h : Ctx M a g R W T nv i j n t) (k : Gn M g R W T M2) (hR : R ≤ 60) (sx : SXq M a M2) (hp : ∀ n, n < T → pm M2 g n = pm M g n) : Ctx M2 a g R W T nv i j n t := by
  obtain ⟨eo, f, e, h1, h2, h3⟩ := h
  refine ⟨by rw [sx.1]; exact eo, f, e, (h1.mono (nm' := nme False M2 g R W) (w' := tn M2 g) (fun v hv => ⟨k.nm (Nat.le_refl _) hv, k.tnm hR hv.wk (Nat.le_refl _)⟩)).fr (fun n _ n2 => ⟨(k.1 n (by omega)).1, (k.1 n (by omega)).2.1, (k.1 n (by omega)).2.2.1⟩) (fun n _ n2 => (k.1 n (by omega)).2.2.2.1) (fun z => absurd rfl z), h2, ?_⟩
  rw [sx.1, sx.2.1]
  exact h3.cg (Or.inl ⟨rfl, eo⟩) (fun x _ x2 => ⟨(k.1 x (by omega)).1, hp x (by omega), (k.1 x (by omega)).2.1, (k.1 x (by omega)).2.2.1⟩) (fun x _ x2 => (k.1 x (by omega)).2.2.2.1) (fun u => absurd u (by decide))
theorem Ctx.up {i j n T' : Nat} {t : Int} (h : Ctx M a g R W T nv i j n t) (hT : T ≤ T') : Ctx M a g R W T' nv i j n t := by
  obtain ⟨eo, f, e, h1, h2, h3⟩ := h
  exact ⟨eo, f, e, h1, by omega, h3⟩
/-- what a whole number comes to -/
def whX (M : mM) (a g : Nat) (nv : Nat → Int) (i j wd : Nat) (x : Int) (M' : mM) : Prop := ((wh9 (vlM M a g nv (i, j)) (nt M (a + 7) wd)).1 ≠ 0 ∧ fpw M' a (wh9 (vlM M a g nv (i, j)) (nt M (a + 7) wd))) ∨ ((wh9 (vlM M a g nv (i, j)) (nt M (a + 7) wd)).1 = 0 ∧ mI M' a 16 = 0 ∧ x = (vlM M a g nv (i, j)).2.1)
theorem x_MM_wholeOf {n wd i j : Nat} (hL : Lc M a g N T K) (h : Ev False M a g R W T) (ht : Ctx M a g R W T nv i j n 0) (hwd : wd < N) : Ci G y_MM_wholeOf (d + 5) [vr a, vi n, vi wd] M (fun x M' => i32 x ∧ mOk M' ∧ EO False M a g R W T M' ∧ (mI M' a 16 = 0 → mI M a 16 = 0 ∧ -1000000000 < x ∧ x < 1000000000) ∧ (mI M a 16 = 0 → whX M a g nv i j wd x M') ∧ (mI M a 16 ≠ 0 → M' = M)) := by
  obtain ⟨eo, f, e, ht, he, tm⟩ := ht
  have w := h.2.1
  have hN := hL.2.1.1.2.2
  have hlt := ht.tn.lt
  have hB := h.2.2.2.2.1
  refine k_MM_wholeOf2 h.1 (i32s (by omega) (by omega)) (i32s (by omega) (by omega)) ⟨w.1.1, fun z16 => ?_, fun z16 => ⟨⟨by omega, by omega⟩, h.1, EO.refl h, fun q => absurd q z16, fun q => absurd q z16, fun _ => rfl⟩⟩
  rw [show mR M a 10 = g from hL.2.2.2.2.1]
  refine (x_MM_workOut (d := d) (b := R) (F := False) (fun z => z) h (Nat.le_refl _) eo tm ht he).mono (fun M4 t4 => ?_)
  obtain ⟨o4, ⟨E4, v4⟩, x4⟩ := t4
  generalize ev : vlM M a g nv (i, j) = v9 at x4
  have cz := (cmpz (mL M4 (a + 98) 0) 1).2.2.2.1
  have w4 := E4.1.2.1
  have L4 := (E4.lc (R := R) (W := W) (C := 0) (Z := 0) hL).1
  rw [show mR M4 a 22 = a + 98 from (w4.1.2.2.2.2.1.2.2.2.2.2.2).2.1, show mR M4 a 21 = a + 97 from (w4.1.2.2.2.2.1.2.2.2.2.2.2).1]
  refine ⟨o4, w4.1.1, fun _ => ⟨(w4.1.2.2.2.2.2.2.2.1).2.1.1, by rw [(w4.1.2.2.2.2.2.2.2.1).2.1.2]; omega⟩, fun q => ⟨(w4.1.2.2.2.2.2.2.2.1).1.1, by rw [(w4.1.2.2.2.2.2.2.2.1).1.2]; omega, i32_w32, o4, E4, fun y16 => ⟨z16, ?_⟩, fun _ => ?_, fun q => absurd z16 q⟩, fun q => ?_⟩
  · rcases v4 with y | ⟨-, y⟩
    · exact absurd y16 y
    · unfold vok at y
      rw [w32_id ⟨by omega, by omega⟩]
      omega
  · unfold whX wh9
    rw [ev]
    rcases x4 with y | y | ⟨y16, y⟩
    · exact absurd z16 y
    · rw [if_pos y.1]
      exact Or.inl ⟨y.1, y.2.1, y.2.2⟩
    · have v0 : vok 0 (mL M4 (a + 97) 0) (mL M4 (a + 98) 0) := by
        rcases v4 with y | ⟨-, y⟩
        · exact absurd y16 y
        · exact y
      unfold vok at v0
      have b1 : mL M4 (a + 98) 0 = 1 := by
        rcases q with q | q
        · exact absurd y16 q
        · exact cz.mp q
      rw [y]
      unfold vr9
      rw [if_neg (by simp), if_neg (by rw [b1]; simp)]
      refine Or.inr ⟨rfl, y16, ?_⟩
      rw [w32_id ⟨by omega, by omega⟩]
  · refine (s_MM_place0 (d := d + 3) o4 L4.2.1 hwd).mono (fun y M5 h5 => ?_)
    obtain ⟨e5, hy⟩ := h5
    subst e5
    have hy32 : i32 y := by rw [hy]; exact (o4 _ _).1
    refine ⟨hy32, o4, w4.1.1, (s_MM_stop ⟨by omega, by omega⟩ hy32 o4 w4).mono (fun M6 h6 => ?_)⟩
    obtain ⟨m6, f1, f2, f3⟩ := h6
    have w6 := m6.2.1
    rw [show mR M6 a 21 = a + 97 from (w6.1.2.2.2.2.1.2.2.2.2.2.2).1]
    refine ⟨m6.1, w6.1.1, (w6.1.2.2.2.2.2.2.2.1).1.1, by rw [(w6.1.2.2.2.2.2.2.2.1).1.2]; omega, i32_w32, m6.1, E4.step m6 (fun _ z => z.elim) (fun x z => Or.inl z) (fun i i1 i2 _ => f3 i i1 i2), fun q => by rw [f1] at q; exact absurd q (by decide), fun _ => ?_, fun q => absurd z16 q⟩
    have y16 : mI M5 a 16 = 0 := Classical.byContradiction (fun z => q (Or.inl z))
    have b1 : mL M5 (a + 98) 0 ≠ 1 := fun z => q (Or.inr (cz.mpr z))
    unfold whX wh9
    rw [ev]
    rcases x4 with y | y | ⟨-, y⟩
    · exact absurd z16 y
    · rw [y.2.1] at y16; exact absurd y16 y.1
    · rw [y]
      unfold vr9
      rw [if_neg (by simp), if_pos (by show (if (0 : Int) = 1 then (1 : Int) else mL M5 (a + 98) 0) ≠ 1; rw [if_neg (by decide)]; exact b1)]
      have p7 : nt M5 (a + 7) wd = nt M (a + 7) wd := (E4.1.lst n7 (by omega)).2.1 wd
      exact Or.inl ⟨by simp, f1, by rw [f2, hy, p7]⟩
end VIX
