/-! The reference: a rule item, to its end. -/
section RI2
variable {G : mG} {d a g R W C Z T N K : Nat} {M M' M2 M3 : mM} {E : Eg9} {tg : Int}
theorem Lc.wd {k : Nat} {Q : Int → mM → Prop} (h : Lc M a g N T K) (hk : k < N) (hQ : ∀ z, z = wk M a k → i32 z → Q z M) : Ci G y_MM_word1 (d + 1) [vr a, vi k] M Q := by
  refine (s_MM_word1 (d := d) h.1 h.2.1.1 hk).mono (fun z M1 e1 => ?_)
  obtain ⟨e1, hz⟩ := e1
  subst e1
  exact hQ z hz (by rw [hz]; exact wk32 h.1)
theorem Lc.fd {k : Nat} {Q : Int → mM → Prop} (h : Lc M a g N T K) (hk : k < N) (hQ : ∀ z : Int, -1 ≤ z → z < K → Q z M) : Ci G y_MM_find (d + 3) [vr a, vi k] M Q := by
  refine (s_MM_find (d := d) h.1 h.2.1 h.2.2.1 hk).mono (fun z M1 e1 => ?_)
  obtain ⟨e1, z1, z2⟩ := e1
  subst e1
  exact hQ z z1 z2
/-- a number of the game is stored -/
theorem gsti {i j : Nat} {v : Int} (h : Lc M a g N T K) (hv : i32 v) (hi : 13 ≤ i ∧ i ≤ 29) (f1 : frO (13 + i)) (f2 : frO (49 + i)) (h13 : i = 13 → mI M g 6 ≤ j) (e : M' = mUI M (g + i) j v) : Lc M' a g N T K ∧ iF M a g M' ∧ (mI M' g = mI M g ∧ mI M' a = mI M a) ∧ Mv (fun _ => False) (fun y => y = g + i) M a M' ∧ (∀ y k, mI M' y k = if y = g + i ∧ k = j then v else mI M y k) ∧ mL M' = mL M := by
  have hg := h.2.2.2.2.2.1
  have hB := h.2.2.2.2.2.2.1
  have w := h.2.1.1.1
  obtain ⟨m, f, l⟩ := mv_cell hv h.1 w (show a ≤ g + i by omega) (goffx hg f1 f2) e
  have no : ∀ q : Nat, False → q ∈ nums a := fun _ z => z.elim
  have gI := m.gI w hg no (by omega)
  have aI := (m.fld w no (by omega)).1
  refine ⟨h.mv m no (fun _ z => z.elim) (by rw [gI]; omega) (by rw [gI]; omega) (by rw [gI]; omega) (fun r hr => ?_), iF.mk w m (fun _ z => z.elim) (fun x z => Or.inr (Or.inl (by omega))) (fun i _ _ _ => by rw [aI]), ⟨gI, aI⟩, m, f, l⟩
  rw [f, if_neg (fun z => by
    have := h13 (by omega)
    omega)]
/-- a long of the game is stored -/
theorem gstl {i j : Nat} {v : Int} (h : Lc M a g N T K) (hv : i64 v) (hi : i = 16 ∨ i = 17) (e : M' = mUL M (g + i) j v) : Lc M' a g N T K ∧ iF M a g M' ∧ mI M' = mI M ∧ Mv (fun _ => False) (fun y => y = g + i) M a M' ∧ (∀ y k, mL M' y k = if y = g + i ∧ k = j then v else mL M y k) := by
  have hg := h.2.2.2.2.2.1
  have hB := h.2.2.2.2.2.2.1
  have w := h.2.1.1.1
  obtain ⟨m, f, l⟩ := mv_ul hv h.1 w e
  have no : ∀ q : Nat, False → q ∈ nums a := fun _ z => z.elim
  exact ⟨h.mv m no (fun _ z => z.elim) (by rw [l]; omega) (by rw [l]; omega) (by rw [l]; omega) (fun r hr => by rw [l]), iF.mk w m (fun _ z => z.elim) (fun x z => Or.inr (Or.inl (by omega))) (fun i _ _ _ => by rw [l]), l, m, f⟩
theorem rlP_it {q : Nat} (hg : g = a + 13 ∨ g = a + 49) (h : rlP a g q) : itP a g q := by
  refine ⟨rlP_in hg h, ?_⟩
  have : ((q = g + 1 ∨ q = g + 3 ∨ q = g + 5 ∨ q = g + 7 ∨ q = g + 9 ∨ q = g + 11) ∨ q = a + 91) ∨ (q = a + 93 ∨ q = a + 95 ∨ q = g + 7) := h
  omega
/-- a rule has been read: what is the same -/
theorem rlR.ge {co r : Int} {T' : Nat} (hL : Lc M a g N T K) (h : rlR co M a g N T K T' r M3) : iF M a g M3 ∧ (mI M3 a 16 = 0 → (∀ n, n < T → pm M3 g n = pm M g n) → Ge M g R W C Z T M3) ∧ ln M3 (g + 30) = ln M (g + 30) ∧ ln M3 (g + 32) = ln M (g + 32) ∧ ln M3 (g + 34) = ln M (g + 34) := by
  obtain ⟨R1, R2, R3, R4, R5, R6⟩ := h
  have hg := hL.2.2.2.2.2.1
  have w := hL.2.1.1.1
  have hin : ∀ q, rlP a g q → q ∈ nums a := fun q hq => rlP_in hg hq
  have no : ∀ i, 30 ≤ i → i ≤ 34 → ¬ rlP a g (g + i) := fun i i1 i2 z => by
    have : ((g + i = g + 1 ∨ g + i = g + 3 ∨ g + i = g + 5 ∨ g + i = g + 7 ∨ g + i = g + 9 ∨ g + i = g + 11) ∨ g + i = a + 91) ∨ (g + i = a + 93 ∨ g + i = a + 95 ∨ g + i = g + 7) := z
    omega
  refine ⟨iF.mk w R1 (fun q hq => rlP_it hg hq) (fun x hx => Or.inl hx) (fun i i1 i2 _ => R3 i i1 i2), fun z hp => ?_, (R1.lst (n30 hg) (no 30 (by omega) (by omega))).1, (R1.lst (n32 hg) (no 32 (by omega) (by omega))).1, (R1.lst (n34 hg) (no 34 (by omega) (by omega))).1⟩
  rcases R6 with y | ⟨-, -, y⟩
  · exact absurd z y
  · exact ge_mv w hg R1 hin (no 30 (by omega) (by omega)) (no 34 (by omega) (by omega)) (no 32 (by omega) (by omega)) (fun i i1 i2 (z : g + i = a) => by omega) (fun n hn => ⟨(y n hn).1, (y n hn).2.1, (y n hn).2.2.1, (y n hn).2.2.2, hp n hn⟩)
/-- after working out, the draft's words, names and nodes -/
theorem EO.lc {F : Prop} {R' W' T' : Nat} (h : Lc M a g N T K) (k : EO F M a g R' W' T' M') : Lc M' a g N T K ∧ mI M' g = mI M g ∧ Ge M g R W C Z T M' ∧ ln M' (g + 30) = ln M (g + 30) ∧ ln M' (g + 32) = ln M (g + 32) ∧ ln M' (g + 34) = ln M (g + 34) := by
  have hg := h.2.2.2.2.2.1
  have hB := h.2.2.2.2.2.2.1
  have w := h.2.1.1.1
  have hin : ∀ q, q = a + 99 → q ∈ nums a := fun q hq => by rw [hq]; exact n99
  have ns : ∀ i, i ≤ 29 → ¬ woS a (g + i) := fun i i1 z => by
    have : g + i = a ∨ g + i = a + 97 ∨ g + i = a + 98 ∨ g + i = a + 102 ∨ g + i = a + 103 ∨ g + i = a + 104 := z
    omega
  have gI := k.1.gI w hg hin (ns 0 (by omega))
  have gs := k.gs w
  exact ⟨h.mv k.1 hin (fun q hq => by omega) (by rw [gI]; omega) (by rw [gI]; omega) (by rw [gI]; omega) (fun r _ => by rw [gs.1]), gI, ge_mv w hg k.1 hin (by omega) (by omega) (by omega) (fun i _ i2 => ns i i2) (fun n _ => ⟨(k.nod n).1, (k.nod n).2.1, (k.nod n).2.2.1, (k.nod n).2.2.2, (k.1.lst (tL_in (q := g + 3) hg (tLk3 g)) (by omega)).2.1 n⟩), (k.1.lst (n30 hg) (by omega)).1, (k.1.lst (n32 hg) (by omega)).1, (k.1.lst (n34 hg) (by omega)).1⟩
end RI2
