section
/-! The reference: a rule item, to its end. -/
section RI2
variable {G : mG} {d a g R W C Z T N K : Nat} {M M' M2 M3 : mM} {E : Eg9} {tg : Int}
theorem Lc.wd {k : Nat} {Q : Int → mM → Prop} (h : Lc M a g N T K) (hk : k < N) (hQ : ∀ z, z = wk M a k → i32 z → Q z M) : Ci G y_MM_word1 (d + 1) [vr a, vi k] M Q := by
  refine (s_MM_word1 (d := d) h.1 h.2.1.1 hk).mono (fun z M1 e1 => ?_)
  obtain ⟨e1, hz⟩ := e1
  subst e1
  exact hQ z hz (by rw [hz]; exact wk32 h.1)
theorem Lc.fd {k : Nat} {Q : Int → mM → Prop} (h : Lc M a g N T K) (hk : k < N) (hQ : ∀ z : Int, -1 ≤ z → z < K → Q z M) : Ci G y_MM_find (d + 3) [vr a, vi k] M Q := by
  refine (s_MM_find (d := d) h.1 h.2.1 h.2.2.1 hk).mono (fun z M1 e1 => ?_)
  obtain ⟨e1, z1, z2⟩ := e1
  subst e1
  exact hQ z z1 z2
/-- a number of the game is stored -/
theorem gsti {i j : Nat} {v : Int} (h : Lc M a g N T K) (hv : i32 v) (hi : 13 ≤ i ∧ i ≤ 29) (f1 : frO (13 + i)) (f2 : frO (49 + i)) (h13 : i = 13 → mI M g 6 ≤ j) (e : M' = mUI M (g + i) j v) : Lc M' a g N T K ∧ iF M a g M' ∧ (mI M' g = mI M g ∧ mI M' a = mI M a) ∧ Mv (fun _ => False) (fun y => y = g + i) M a M' ∧ (∀ y k, mI M' y k = if y = g + i ∧ k = j then v else mI M y k) ∧ mL M' = mL M := by
  have hg := h.2.2.2.2.2.1
  have hB := h.2.2.2.2.2.2.1
  have w := h.2.1.1.1
  obtain ⟨m, f, l⟩ := mv_cell hv h.1 w (show a ≤ g + i by omega) (goffx hg f1 f2) e
  have no : ∀ q : Nat, False → q ∈ nums a := fun _ z => z.elim
  have gI := m.gI w hg no (by omega)
  have aI := (m.fld w no (by omega)).1
  refine ⟨h.mv m no (fun _ z => z.elim) (by rw [gI]; omega) (by rw [gI]; omega) (by rw [gI]; omega) (fun r hr => ?_), iF.mk w m (fun _ z => z.elim) (fun x z => Or.inr (Or.inl (by omega))) (fun i _ _ _ => by rw [aI]), ⟨gI, aI⟩, m, f, l⟩
  rw [f, if_neg (fun z => by
    have := h13 (by omega)
    omega)]
/-- a long of the game is stored -/
theorem gstl {i j : Nat} {v : Int} (h : Lc M a g N T K) (hv : i64 v) (hi : i = 16 ∨ i = 17) (e : M' = mUL M (g + i) j v) : Lc M' a g N T K ∧ iF M a g M' ∧ mI M' = mI M ∧ Mv (fun _ => False) (fun y => y = g + i) M a M' ∧ (∀ y k, mL M' y k = if y = g + i ∧ k = j then v else mL M y k) := by
  have hg := h.2.2.2.2.2.1
  have hB := h.2.2.2.2.2.2.1
  have w := h.2.1.1.1
  obtain ⟨m, f, l⟩ := mv_ul hv h.1 w e
  have no : ∀ q : Nat, False → q ∈ nums a := fun _ z => z.elim
  exact ⟨h.mv m no (fun _ z => z.elim) (by rw [l]; omega) (by rw [l]; omega) (by rw [l]; omega) (fun r hr => by rw [l]), iF.mk w m (fun _ z => z.elim) (fun x z => Or.inr (Or.inl (by omega))) (fun i _ _ _ => by rw [l]), l, m, f⟩
theorem rlP_it {q : Nat} (hg : g = a + 13 ∨ g = a + 49) (h : rlP a g q) : itP a g q := by
  refine ⟨rlP_in hg h, ?_⟩
  have : ((q = g + 1 ∨ q = g + 3 ∨ q = g + 5 ∨ q = g + 7 ∨ q = g + 9 ∨ q = g + 11) ∨ q = a + 91) ∨ (q = a + 93 ∨ q = a + 95 ∨ q = g + 7) := h
  omega
/-- a rule has been read: what is the same -/
theorem rlR.ge {co r : Int} {T' : Nat} (hL : Lc M a g N T K) (h : rlR co M a g N T K T' r M3) : iF M a g M3 ∧ (mI M3 a 16 = 0 → (∀ n, n < T → pm M3 g n = pm M g n) → Ge M g R W C Z T M3) ∧ ln M3 (g + 30) = ln M (g + 30) ∧ ln M3 (g + 32) = ln M (g + 32) ∧ ln M3 (g + 34) = ln M (g + 34) := by
  obtain ⟨R1, R2, R3, R4, R5, R6⟩ := h
  have hg := hL.2.2.2.2.2.1
  have w := hL.2.1.1.1
  have hin : ∀ q, rlP a g q → q ∈ nums a := fun q hq => rlP_in hg hq
  have no : ∀ i, 30 ≤ i → i ≤ 34 → ¬ rlP a g (g + i) := fun i i1 i2 z => by
    have : ((g + i = g + 1 ∨ g + i = g + 3 ∨ g + i = g + 5 ∨ g + i = g + 7 ∨ g + i = g + 9 ∨ g + i = g + 11) ∨ g + i = a + 91) ∨ (g + i = a + 93 ∨ g + i = a + 95 ∨ g + i = g + 7) := z
    omega
  refine ⟨iF.mk w R1 (fun q hq => rlP_it hg hq) (fun x hx => Or.inl hx) (fun i i1 i2 _ => R3 i i1 i2), fun z hp => ?_, (R1.lst (n30 hg) (no 30 (by omega) (by omega))).1, (R1.lst (n32 hg) (no 32 (by omega) (by omega))).1, (R1.lst (n34 hg) (no 34 (by omega) (by omega))).1⟩
  rcases R6 with y | ⟨-, -, y⟩
  · exact absurd z y
  · exact ge_mv w hg R1 hin (no 30 (by omega) (by omega)) (no 34 (by omega) (by omega)) (no 32 (by omega) (by omega)) (fun i i1 i2 (z : g + i = a) => by omega) (fun n hn => ⟨(y n hn).1, (y n hn).2.1, (y n hn).2.2.1, (y n hn).2.2.2, hp n hn⟩)
/-- after working out, the draft's words, names and nodes -/
theorem EO.lc {F : Prop} {R' W' T' : Nat} (h : Lc M a g N T K) (k : EO F M a g R' W' T' M') : Lc M' a g N T K ∧ mI M' g = mI M g ∧ Ge M g R W C Z T M' ∧ ln M' (g + 30) = ln M (g + 30) ∧ ln M' (g + 32) = ln M (g + 32) ∧ ln M' (g + 34) = ln M (g + 34) := by
  have hg := h.2.2.2.2.2.1
  have hB := h.2.2.2.2.2.2.1
  have w := h.2.1.1.1
  have hin : ∀ q, q = a + 99 → q ∈ nums a := fun q hq => by rw [hq]; exact n99
  have ns : ∀ i, i ≤ 29 → ¬ woS a (g + i) := fun i i1 z => by
    have : g + i = a ∨ g + i = a + 97 ∨ g + i = a + 98 ∨ g + i = a + 102 ∨ g + i = a + 103 ∨ g + i = a + 104 := z
    omega
  have gI := k.1.gI w hg hin (ns 0 (by omega))
  have gs := k.gs w
  exact ⟨h.mv k.1 hin (fun q hq => by omega) (by rw [gI]; omega) (by rw [gI]; omega) (by rw [gI]; omega) (fun r _ => by rw [gs.1]), gI, ge_mv w hg k.1 hin (by omega) (by omega) (by omega) (fun i _ i2 => ns i i2) (fun n _ => ⟨(k.nod n).1, (k.nod n).2.1, (k.nod n).2.2.1, (k.nod n).2.2.2, (k.1.lst (tL_in (q := g + 3) hg (by omega)) (by omega)).2.1 n⟩), (k.1.lst (n30 hg) (by omega)).1, (k.1.lst (n32 hg) (by omega)).1, (k.1.lst (n34 hg) (by omega)).1⟩
end RI2
end
section
/-! The reference: ruleItem. -/
section RI3
variable {G : mG} {d a g R W C Z T N K : Nat} {M : mM} {E : Eg9} {tg : Int}
/-- a new rule's numbers are stored -/
def riS (M : mM) (a g N T K R W C Z T' f : Nat) (co v6 x3 : Int) (M6 : mM) : Prop := Lc M6 a g N T' K ∧ iF M a g M6 ∧ mI M6 g = mI M g ∧ (ln M6 (g + 30) = ln M (g + 30) ∧ ln M6 (g + 32) = ln M (g + 32) ∧ ln M6 (g + 34) = ln M (g + 34)) ∧ Ge M g R W C Z T M6 ∧ mI M6 (g + 13) R = v6 ∧ mI M6 (g + 15) R = (T : Int) ∧ tn M6 g R = x3 ∧ ∀ F : Prop, (co = 0 → F) → Ty (nme F M6 g R W) (tn M6 g) M6 g f 0 T T' (fun _ => x3)
theorem ri_a {T' : Nat} {co v6 x3 : Int} {M3 M4 M5 M6 : mM} (h : Df M a g N T K R W C Z E tg) (hR : R < 60) (t1 : T < T') (Rl : rlR co M a g N T K T' x3 M3) (z16 : mI M3 a 16 = 0) (hp : ∀ n, n < T → pm M3 g n = pm M g n) (c6 : v6 = 0 ∨ v6 = 1) (e4 : M4 = mUI M3 (g + 13) R v6) (e5 : M5 = mUI M4 (g + 14) R x3) (e6 : M6 = mUI M5 (g + 15) R (T : Int)) : (∃ f, riS M a g N T K R W C Z T' f co v6 x3 M6) ∧ Lc M4 a g N T' K ∧ Lc M5 a g N T' K := by
  obtain ⟨hL, ⟨g6, g12, g18, g17⟩, -, -, hD⟩ := h
  have hg := hL.2.2.2.2.2.1
  have hBd := hD.1.1
  have hT3 := Rl.2.1.2.2.2.2.2.2.2
  obtain ⟨I3, G3, z30, z32, z34⟩ := rlR.ge (R := R) (W := W) (C := C) (Z := Z) hL Rl
  have G3 := G3 z16 hp
  obtain ⟨-, R2, -, R4, R5, R6⟩ := Rl
  have gI3 : mI M3 g = mI M g := R4
  obtain ⟨f, ty⟩ : ∃ f, Ty (nmr co M g) (tn M g) M3 g f 0 T T' (fun _ => x3) := by
    rcases R6 with y | ⟨-, y, -⟩
    · exact absurd z16 y
    · exact y
  clear R6
  have g63 : mI M3 g 6 ≤ R := by rw [gI3, g6]; omega
  obtain ⟨L4, I4, ⟨gI4, aI4⟩, m4, f4, l4⟩ := gsti R2 (i := 13) (i32s (by omega) (by omega)) (by omega) (by decide) (by decide) (fun _ => g63) e4
  have G4 := ge_st (R := R) (W := W) (C := C) (Z := Z) (T := T') hg m4 f4 l4 (fun _ => Nat.le_refl R) (by omega) (by omega) (by omega)
  obtain ⟨L5, I5, ⟨gI5, aI5⟩, m5, f5, l5⟩ := gsti L4 (i := 14) (i32s (by omega) (by omega)) (by omega) (by decide) (by decide) (fun z => by omega) e5
  have G5 := ge_st (R := R) (W := W) (C := C) (Z := Z) (T := T') hg m5 f5 l5 (fun _ => Nat.le_refl R) (by omega) (by omega) (by omega)
  obtain ⟨L6, I6, ⟨gI6, aI6⟩, m6, f6, l6⟩ := gsti L5 (i := 15) (i32s (by omega) (by omega)) (by omega) (by decide) (by decide) (fun z => by omega) e6
  have G6 := ge_st (R := R) (W := W) (C := C) (Z := Z) (T := T') hg m6 f6 l6 (fun _ => Nat.le_refl R) (by omega) (by omega) (by omega)
  have G36 := (G4.trans G5).trans G6
  have G06 := G3.trans (G36.down (Nat.le_refl _) (Nat.le_refl _) (Nat.le_refl _) (Nat.le_refl _) (Nat.le_of_lt t1))
  have c13 : mI M6 (g + 13) R = v6 := by rw [f6, if_neg (fun z => by omega), f5, if_neg (fun z => by omega), f4, if_pos ⟨rfl, rfl⟩]
  have c14 : mI M6 (g + 14) R = x3 := by rw [f6, if_neg (fun z => by omega), f5, if_pos ⟨rfl, rfl⟩]
  have c15 : mI M6 (g + 15) R = (T : Int) := by rw [f6, if_pos ⟨rfl, rfl⟩]
  have tn6 : tn M6 g R = x3 := by
    unfold tn
    rw [if_neg (show ¬ (100 : Int) ≤ (R : Int) by omega), Int.toNat_natCast, c14]
    split <;> omega
  have gI06 : mI M6 g = mI M g := by rw [gI6, gI5, gI4, gI3]
  have y0 : ∀ {q}, q ∈ nums a → ln M6 q = ln M3 q := fun hq => by rw [(m6.lst hq (fun z => z)).1, (m5.lst hq (fun z => z)).1, (m4.lst hq (fun z => z)).1]
  refine ⟨⟨f, L6, ((I3.trans I4).trans I5).trans I6, gI06, ⟨by rw [y0 (n30 hg), z30], by rw [y0 (n32 hg), z32], by rw [y0 (n34 hg), z34]⟩, G06, c13, c15, tn6, fun F hF => ?_⟩, L4, L5⟩
  clear c13 c14 c15 tn6 y0 f4 f5 f6 m4 m5 m6 L4 L5 L6 I3 I4 I5 I6 l4 l5 l6 G4 G5 G6 G3
  refine (ty.mono (nm' := nme F M6 g R W) (w' := tn M6 g) (fun v hv => ?_)).fr (fun n _ n2 => ⟨(G36.1.1 n n2).1, (G36.1.1 n n2).2.1, (G36.1.1 n n2).2.2.1⟩) (fun n _ n2 => (G36.1.1 n n2).2.2.2.1) (fun z => absurd rfl z)
  unfold nmr at hv
  rw [g6, g12] at hv
  rcases hv with ⟨h1, h2, h3, h4⟩ | ⟨h1, h2, h3, h4⟩
  · have gt := G06.1.tr (r := v.toNat) hBd (by omega)
    rw [show ((v.toNat : Nat) : Int) = v by omega] at gt
    refine ⟨Or.inl ⟨h1, h2, ?_⟩, gt⟩
    by_cases z : co = 0
    · exact Or.inl (hF z)
    · right
      rw [(G06.1.2.1 v.toNat (by omega)).1]
      exact h4 z
  · exact ⟨Or.inr ⟨hF h1, h2, h3⟩, G06.1.tv h2 h3⟩
end RI3
end
