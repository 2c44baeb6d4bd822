/-! The reference: compile. -/
section CMP
variable {G : mG} {d a gm : Nat} {M M1 M2 M3 : mM} {P S : Nat → Prop} {Nt9 : tP9}
/-- so far the game, the states and the solver are as they were -/
def pk (M : mM) (a gm : Nat) (M2 : mM) : Prop := mOk M2 ∧ Wd M2 a ∧ RA M M2 a gm ∧ FR M a M2
theorem pk.mv (hg : gm = a + 13 ∨ gm = a + 49) (h : pk M a gm M2) (m : Mv P S M2 a M3) (hin : ∀ q, P q → q ∈ nums a) (hP : ∀ q, P q → ¬ gL9 gm q ∧ q ≠ a + 109 ∧ q ≠ a + 111 ∧ q ≠ a + 113 ∧ q ≠ a + 115) (hS : ∀ x, S x → (a ≤ x ∧ x ≤ a + 21191) ∧ ¬ (x = gm ∨ (gm + 13 ≤ x ∧ x ≤ gm + 29) ∨ (a + 105 ≤ x ∧ x ≤ a + 108) ∨ (a + 117 ≤ x ∧ x ≤ a + 21187))) (hf : mI M3 a 11 = mI M2 a 11 ∧ mI M3 a 29 = mI M2 a 29 ∧ mI M3 a 48 = mI M2 a 48 ∧ mI M3 a 30 = mI M2 a 30 ∧ mI M3 a 40 = mI M2 a 40) : pk M a gm M3 :=
  ⟨m.1, m.2.1, h.2.2.1.trans (ra_mv h.2.1 hg m hin hP (fun x hx => (hS x hx).2) hf), h.2.2.2.trans (FR.mv m hin (fun x hx => (hS x hx).1))⟩
theorem pk.fld {j : Nat} {v : Int} (hg : gm = a + 13 ∨ gm = a + 49) (h : pk M a gm M2) (hv : i32 v) (hj : j ≠ 11 ∧ j ≠ 29 ∧ j ≠ 48 ∧ j ≠ 30 ∧ j ≠ 40) (e : M3 = mUI M2 a j v) : pk M a gm M3 ∧ (∀ i, mI M3 a i = if i = j then v else mI M2 a i) ∧ mR M3 a = mR M2 a ∧ ∀ q, q ∈ nums a → sameN M2 M3 q := by
  obtain ⟨m, f⟩ := mv_fld hv h.1 h.2.1 e
  exact ⟨h.mv hg m (fun _ z => z.elim) (fun _ z => z.elim) (fun x z => by omega) ⟨by rw [f, if_neg (by omega)], by rw [f, if_neg (by omega)], by rw [f, if_neg (by omega)], by rw [f, if_neg (by omega)], by rw [f, if_neg (by omega)]⟩, f, m.rfl_a h.2.1 (fun _ z => z.elim), fun q hq => m.lst hq (fun z => z)⟩
/-- the tape becomes the text -/
theorem cmp_a {M4 M6 M9 : mM} (h : RI0 Nt9 M a) (e2 : M2 = mUI M a 0 0) (e4 : M4 = mUR M2 a 2 (mR M2 a 1)) (e6 : M6 = mUR M4 a 1 (mR M2 a 2)) (e9 : M9 = mUI M6 (mR M6 a 1) 1 0) : mK M6 (mR M6 a 1) = 15 ∧ pk M a (mR M a 9) M9 ∧ (mR M9 a 9 = mR M a 9 ∧ mR M9 a 10 = mR M a 10) ∧ ln M9 (mR M9 a 1) = 0 ∧ ln M9 (mR M9 a 2) ≤ 16384 := by
  obtain ⟨hO, w, ht, hx⟩ := h
  have hg := w.g9
  have p0 : pk M a (mR M a 9) M := ⟨hO, w, ra_mv (P := fun _ => False) (S := fun _ => False) w hg (Mv.refl hO w (fun _ z => z.elim)) (fun _ z => z.elim) (fun _ z => z.elim) (fun _ z => z.elim) ⟨rfl, rfl, rfl, rfl, rfl⟩, FR.mv (P := fun _ => False) (S := fun _ => False) (Mv.refl hO w (fun _ z => z.elim)) (fun _ z => z.elim) (fun _ z => z.elim)⟩
  obtain ⟨p2, f2, r2, s2⟩ := p0.fld hg ⟨by decide, by decide⟩ ⟨by decide, by decide, by decide, by decide, by decide⟩ e2
  have w2 := p2.2.1
  have u : ur M2 M6 a := (ur.one e4).trans (ur.one e6)
  have hr : ∀ i, i ≠ 1 → i ≠ 2 → mR M6 a i = mR M2 a i := fun i i1 i2 => by rw [e6, mR_UR, if_neg (fun z => i1 z.2), e4, mR_UR, if_neg (fun z => i2 z.2)]
  have r1 : mR M6 a 1 = mR M2 a 2 := by rw [e6, mR_UR, if_pos ⟨rfl, rfl⟩]
  have r2' : mR M6 a 2 = mR M2 a 1 := by rw [e6, mR_UR, if_neg (fun z => absurd z.2 (by decide)), e4, mR_UR, if_pos ⟨rfl, rfl⟩]
  have w6 : Wd M6 a := w2.ur u (fun i i1 i2 _ _ => hr i i1 i2) (by
    rw [r1, r2']
    rcases w2.1.2.1 with y | y
    · exact Or.inr ⟨y.2, y.1⟩
    · exact Or.inl ⟨y.2, y.1⟩) (by rw [hr 9 (by decide) (by decide), hr 10 (by decide) (by decide)]; exact w2.1.2.2.2.1)
  have o6 : mOk M6 := by rw [e6, e4]; exact mOk_UR (mOk_UR p2.1)
  have p6 : pk M a (mR M a 9) M6 := ⟨o6, w6, p2.2.2.1.trans (ra_ur hg u), p2.2.2.2.trans (FR.ur u)⟩
  have tp := w6.tape
  have b : 0 ≤ ln M6 (mR M6 a 1) := (w6.nu tp.1).2.2.2.1.1
  obtain ⟨m9, l9, -, -⟩ := mv_set o6 w6 tp.1 (v := 0) (by omega) b e9
  have hin : ∀ q, q = mR M6 a 1 → q ∈ nums a := fun q hq => by rw [hq]; exact tp.1
  have h13 : mR M6 a 1 = a + 1 ∨ mR M6 a 1 = a + 3 := by
    rcases w6.1.2.1 with y | y
    · exact Or.inl y.1
    · exact Or.inr y.1
  have aI := (m9.fld w6 hin (fun z => z)).1
  have p9 := p6.mv hg m9 hin (fun q hq => ⟨fun z => by
    have : q = mR M a 9 + 1 ∨ q = mR M a 9 + 3 ∨ q = mR M a 9 + 5 ∨ q = mR M a 9 + 7 ∨ q = mR M a 9 + 9 ∨ q = mR M a 9 + 11 ∨ q = mR M a 9 + 30 ∨ q = mR M a 9 + 32 ∨ q = mR M a 9 + 34 := z
    omega, by omega, by omega, by omega, by omega⟩) (fun _ z => z.elim) ⟨by rw [aI], by rw [aI], by rw [aI], by rw [aI], by rw [aI]⟩
  have r9 := m9.rfl_a w6 hin
  refine ⟨(w6.nu tp.1).1, p9, ⟨by rw [r9, hr 9 (by decide) (by decide), r2], by rw [r9, hr 10 (by decide) (by decide), r2]⟩, by rw [r9]; exact l9, ?_⟩
  rw [r9, (m9.lst tp.2.1 (fun z => tp.2.2 z.symm)).1, (u.sl tp.2.1).1, r2', r2, (s2 _ w.tape.1).1, ht.1.1]
  exact ht.1.2.1
/-- the words that have been cut -/
theorem cut_wx {M9 M11 : mM} (w9 : Wd M9 a) (ht : ln M9 (mR M9 a 2) ≤ 16384) (h : cutQ M9 a M11) : ∃ N, Wx M11 a N ∧ wrds M11 a N := by
  obtain ⟨m, c, h1, h2, h3, h4, h5⟩ := h
  have hin : ∀ q, wP a q → q ∈ nums a := fun q hq => wP_in hq
  have r := m.rfl_a w9 hin
  have tp := w9.tape
  have n2 : ¬ wP a (mR M9 a 2) := by
    rcases w9.1.2.1 with y | y <;> rw [y.2] <;> omega
  have st := m.lst tp.2.1 n2
  have all : ∀ k, k < c + 1 → wok M11 a (nt M11 (a + 5) k) (nt M11 (a + 7) k) (nt M11 (a + 9) k) := fun k hk => by
    by_cases z : k = c
    · rw [z]; exact h4
    · exact (h3 k (by omega)).1
  refine ⟨c + 1, ⟨⟨m.2.1, h1.1, by omega⟩, h1.2.1, h1.2.2, all, by rw [r, st.1]; exact ht⟩, by omega, by omega, h1.1, fun j hj => ?_, ?_⟩
  · have := h3 j (by omega)
    have w := (all j (by omega)).1
    omega
  · rw [show c + 1 - 1 = c by omega]
    exact h5
/-- the end of a compile that found a fault -/
theorem cmp_x {i9 : tI9} {r : Int} (ir : i32 r) (hg : gm = a + 13 ∨ gm = a + 49) (h0 : RX i9 M a gm) (p : pk M a gm M1) (h9 : mR M1 a 9 = gm) (t1 : ln M1 (mR M1 a 1) = 0 ∧ (0 : Int) ≤ 16384) (t2 : ln M1 (mR M1 a 2) ≤ 16384) {v : Int} (iv : i32 v) (e : M2 = mUI M1 a 12 v) : i32 r ∧ RI0 (z9 i9) M2 a ∧ FR M a M2 := by
  obtain ⟨p2, f2, r2, s2⟩ := p.fld hg iv ⟨by decide, by decide, by decide, by decide, by decide⟩ e
  have tp := p.2.1.tape
  refine ⟨ir, ⟨p2.1, p2.2.1, ⟨by rw [r2]; exact Tpl.nil (by rw [(s2 _ tp.1).1]; exact t1.1), by rw [r2, (s2 _ tp.2.1).1]; exact t2⟩, ?_⟩, p2.2.2.2⟩
  rw [r2, h9]
  exact h0.ra p2.2.2.1
theorem cmp_xe (hg : gm = a + 13 ∨ gm = a + 49) (p : pk M a gm M1) {v : Int} (iv : i32 v) (e : M2 = mUI M1 a 12 v) : xeF M M2 a ∧ mI M2 (a + 117 + 30) 0 = mI M (a + 117 + 30) 0 := by
  have r := (p.fld hg iv ⟨by decide, by decide, by decide, by decide, by decide⟩ e).1.2.2.1
  exact ⟨r.2.2.2.2.2.2.2, by rw [(r.2.1 (a + 117 + 30) (by omega) (by omega)).2.2.2]⟩
end CMP
