/-! The reference: a rule item. -/
section RI
variable {G : mG} {d a g R W C Z T N K : Nat} {M M' M2 M3 : mM} {E : Eg9} {tg : Int}
/-- the draft at the end of an item -/
def Df (M : mM) (a g N T K R W C Z : Nat) (E : Eg9) (tg : Int) : Prop := Lc M a g N T K ∧ (mI M g 6 = R ∧ mI M g 12 = W ∧ mI M g 18 = C ∧ mI M g 17 = tg) ∧ (ln M (g + 30) = Z ∧ ln M (g + 32) = Z ∧ ln M (g + 34) = Z) ∧ K = R + W ∧ Dg M g R W C Z T E tg
/-- an item has been read: a fault was told, or the draft is sound -/
def itQ (M : mM) (a g N k : Nat) (M' : mM) : Prop := iF M a g M' ∧ (mI M' a 16 ≠ 0 ∨ (mI M' a 16 = 0 ∧ ∃ (T K R W C Z : Nat) (E : Eg9) (tg : Int), Df M' a g N T K R W C Z E tg ∧ T ≤ k ∧ Z ≤ k))
theorem st_it {c p : Int} {k : Nat} (w : Wd M a) (hc : c ≠ 0) (h : Mv (fun _ => False) (fun x => x = a) M a M' ∧ mI M' a 16 = c ∧ mI M' a 17 = p ∧ ∀ i, i ≠ 16 → i ≠ 17 → mI M' a i = mI M a i) : itQ M a g N k M' :=
  ⟨iF.mk w h.1 (fun q z => z.elim) (fun x z => Or.inl z) (fun i i1 i2 _ => h.2.2.2 i i1 i2), Or.inl (by rw [h.2.1]; exact hc)⟩
/-- a name is known -/
theorem Lc.kn {u v x : Int} (h : Lc M a g N T K) (hK : K < 200) (m : Mv (knP a) (fun _ => False) M a M') (l : ln M' (a + 85) = (K + 1 : Nat) ∧ ln M' (a + 87) = (K + 1 : Nat) ∧ ln M' (a + 89) = (K + 1 : Nat)) (o : ∀ j, j < K → nt M' (a + 85) j = nt M (a + 85) j ∧ nt M' (a + 87) j = nt M (a + 87) j ∧ nt M' (a + 89) j = nt M (a + 89) j) (e1 : nt M' (a + 85) K = u) (e2 : nt M' (a + 87) K = v) (e3 : nt M' (a + 89) K = x) (hu : 0 ≤ u ∧ u < N) (hv : (v = 3 ∧ 0 ≤ x ∧ x < mI M g 12) ∨ ((v = 1 ∨ v = 2) ∧ 0 ≤ x ∧ x < mI M g 6)) (h1 : v = 1 → mI M (g + 13) x.toNat = 0) : Lc M' a g N T (K + 1) ∧ mI M' g = mI M g ∧ mI M' a = mI M a := by
  obtain ⟨hO, hx, hnm, hd, h10, hg, hB, hT⟩ := h
  have w := hx.1.1
  have hin : ∀ q, knP a q → q ∈ nums a := fun q hq => knP_in hq
  have a0 := goff0 hg
  have gI := m.cell w hin a0.1 a0.2.1 a0.2.2.1 (fun z => z)
  have o13 := goffx (i := 13) hg (by decide) (by decide)
  have g13 := m.cell w hin o13.1 o13.2.1 o13.2.2 (fun z => z)
  have h2 : ¬ knP a (mR M a 2) := by
    rcases w.1.2.1 with y | y <;> rw [y.2] <;> omega
  refine ⟨⟨m.1, hx.mv m hin (by omega) (by omega) (by omega) h2, ⟨l.1, l.2.1, l.2.2, by omega, fun k hk => ?_⟩, fun q hq => ?_, by rw [m.rfl_a w hin]; exact h10, hg, by rw [gI]; exact hB, hT⟩, gI, (m.fld w hin (fun z => z)).1⟩
  · rw [gI, g13]
    by_cases z : k = K
    · rw [z, e1, e2, e3]
      exact ⟨hu, hv, h1⟩
    · obtain ⟨o1, o2, o3⟩ := o k (by omega)
      rw [o1, o2, o3]
      exact hnm.2.2.2.2 k (by omega)
  · have hq' : q = g + 1 ∨ q = g + 3 ∨ q = g + 5 ∨ q = g + 7 ∨ q = g + 9 ∨ q = g + 11 := hq
    rw [(m.lst (tL_in hg hq) (by omega)).1]
    exact hd q hq
theorem ge_kn (w : Wd M a) (hg : g = a + 13 ∨ g = a + 49) (m : Mv (knP a) (fun _ => False) M a M') : Ge M g R W C Z T M' ∧ ln M' (g + 30) = ln M (g + 30) ∧ ln M' (g + 32) = ln M (g + 32) ∧ ln M' (g + 34) = ln M (g + 34) := by
  have nn : ∀ n, so M' g n = so M g n ∧ va M' g n = va M g n ∧ fp M' g n = fp M g n ∧ np M' g n = np M g n ∧ pm M' g n = pm M g n := fun n => ⟨(m.lst (tL_in (q := g + 1) hg (tLk1 g)) (by omega)).2.1 n, (m.lst (tL_in (q := g + 7) hg (tLk7 g)) (by omega)).2.1 n, (m.lst (tL_in (q := g + 9) hg (tLk9 g)) (by omega)).2.1 n, (m.lst (tL_in (q := g + 11) hg (tLk11 g)) (by omega)).2.1 n, (m.lst (tL_in (q := g + 3) hg (tLk3 g)) (by omega)).2.1 n⟩
  exact ⟨ge_mv w hg m (fun q hq => knP_in hq) (by omega) (by omega) (by omega) (fun _ _ _ z => z) (fun n _ => nn n), (m.lst (n30 hg) (by omega)).1, (m.lst (n32 hg) (by omega)).1, (m.lst (n34 hg) (by omega)).1⟩
theorem knP_it {q : Nat} (h : knP a q) : itP a g q := ⟨knP_in h, by have : q = a + 85 ∨ q = a + 87 ∨ q = a + 89 := h; omega⟩
/-- the game's own numbers after a step elsewhere -/
theorem Mv.gI {P S : Nat → Prop} (m : Mv P S M a M') (w : Wd M a) (hg : g = a + 13 ∨ g = a + 49) (hin : ∀ q, P q → q ∈ nums a) (hS : ¬ S g) : mI M' g = mI M g := by
  have a0 := goff0 hg
  exact m.cell w hin a0.1 a0.2.1 a0.2.2.1 hS
end RI
