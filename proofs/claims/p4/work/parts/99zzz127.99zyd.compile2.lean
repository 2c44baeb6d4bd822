/-! The reference: compile, to its end. -/
section CMP2
variable {G : mG} {d a gm gd : Nat} {M M1 M2 M3 : mM} {P S : Nat → Prop} {Nt9 : tP9}
theorem gd_mv {g : Nat} (h : Gd M2 g) (w : Wd M2 a) (hg : g = a + 13 ∨ g = a + 49) (m : Mv P S M2 a M3) (hin : ∀ q, P q → q ∈ nums a) (hP : ∀ q, P q → ¬ gL9 g q) (hS : ∀ x, S x → ¬ (x = g ∨ (g + 13 ≤ x ∧ x ≤ g + 29))) : Gd M3 g := by
  have fre : ∀ i, 13 ≤ i → i ≤ 29 → g + i < a + 21192 ∧ g + i ∉ nums a ∧ (∀ q, q ∈ nums a → g + i ≠ q + 1) := fun i i1 i2 => by
    have : i = 13 ∨ i = 14 ∨ i = 15 ∨ i = 16 ∨ i = 17 ∨ i = 18 ∨ i = 19 ∨ i = 20 ∨ i = 21 ∨ i = 22 ∨ i = 23 ∨ i = 24 ∨ i = 25 ∨ i = 26 ∨ i = 27 ∨ i = 28 ∨ i = 29 := by omega
    rcases this with y | y | y | y | y | y | y | y | y | y | y | y | y | y | y | y | y <;> subst y <;> exact goffx hg (by decide) (by decide)
  exact h.ra (fun q hq => (m.lst (gL9_in hg hq) (fun z => hP _ z hq)).sl) (m.gI w hg hin (fun z => hS _ z (by omega))) (fun i i1 i2 => m.cellL w hin (fre i i1 i2) (fun z => hS _ z (by omega)))
/-- a step of the solver alone -/
theorem mv_sol (o : mOk M3) (w : Wd M2 a) (f : FI (vF (a + 117)) M2 M3) : Mv (fun _ => False) (vF (a + 117)) M2 a M3 := by
  refine mv_fi o w f (fun x z => ?_)
  have z' : a + 117 ≤ x ∧ x ≤ a + 117 + 21067 := z
  exact ⟨by omega, by omega, fun y => by have := nums_in y; omega, fun q hq y => by have := nums_in hq; omega⟩
theorem Df.good {g N T K R W C Z : Nat} {E : Nat → Nat} {tg : Int} (h : Df M2 a g N T K R W C Z E tg) (hT : T ≤ 16384) (hZ : Z ≤ 16384) (ht : 0 ≤ tg) : Gd M2 g :=
  ⟨T, R, W, C, Z, E, tg, h.1.2.2.2.1, ⟨hT, hZ⟩, h.2.1, h.2.2.1, h.2.2.2.2, ht⟩
theorem s_cmp_ok (h0 : RX M a gm) (hgm : gm = a + 13 ∨ gm = a + 49) (p : pk M a gm M1) (h9 : mR M1 a 9 = gm) (h10 : mR M1 a 10 = gd) (t1 : ln M1 (mR M1 a 1) = 0 ∧ (0 : Int) ≤ 16384) (t2 : ln M1 (mR M1 a 2) ≤ 16384) (hG : Gd M1 gd) : ∀ M34, M34 = mUR M1 a 9 (mR M1 a 10) → ∀ M36, M36 = mUR M34 a 10 (mR M1 a 9) → ∀ M38, M38 = mUI M36 a 11 1 → ∀ M40, M40 = mUI M38 a 29 0 → mK M40 (mR M40 a 39) = 17 ∧ Cv G y_MS_clear d [vr (mR M40 a 39)] M40 (fun M43 => mOk M43 ∧ (mK M43 a = 14 ∧ ∀ M47, M47 = mUI M43 a 12 (-1) → i32 0 ∧ RI z9 M47 a ∧ FR M a M47)) := by
  intro M34 e34 M36 e36 M38 e38 M40 e40
  have w1 := p.2.1
  have hgd : gd = a + 13 ∨ gd = a + 49 := by rw [← h10]; exact w1.g10.1
  have u : ur M1 M36 a := (ur.one e34).trans (ur.one e36)
  have hr : ∀ i, i ≠ 9 → i ≠ 10 → mR M36 a i = mR M1 a i := fun i i1 i2 => by rw [e36, mR_UR, if_neg (fun z => i2 z.2), e34, mR_UR, if_neg (fun z => i1 z.2)]
  have r10 : mR M36 a 10 = gm := by rw [e36, mR_UR, if_pos ⟨rfl, rfl⟩]; exact h9
  have r9 : mR M36 a 9 = gd := by rw [e36, mR_UR, if_neg (fun z => absurd z.2 (by decide)), e34, mR_UR, if_pos ⟨rfl, rfl⟩]; exact h10
  have w36 : Wd M36 a := w1.ur u (fun i _ _ i3 i4 => hr i i3 i4) (by rw [hr 1 (by decide) (by decide), hr 2 (by decide) (by decide)]; exact w1.1.2.1) (by
    rw [r9, r10]
    have := w1.g10.2
    rw [h9, h10] at this
    rcases this with y | y
    · exact Or.inr ⟨y.2, y.1⟩
    · exact Or.inl ⟨y.2, y.1⟩)
  have o36 : mOk M36 := by rw [e36, e34]; exact mOk_UR (mOk_UR p.1)
  have F36 := p.2.2.2.trans (FR.ur u)
  have S36 : Sv M36 (a + 117) (mI M a 29).toNat := h0.2.1.ag (p.2.2.1.trans (ra_ur hgm u)).2.1
  have x48 : mI M36 a 48 = mI M a 48 := (p.2.2.1.trans (ra_ur hgm u)).1.2.2
  have G36 : Gd M36 gd := hG.ra (fun q hq => (u.sl (gL9_in hgd hq)).sl) (by rw [u.2.2.1]) (fun i _ _ => by rw [u.2.2.1, u.2.2.2.1]; exact ⟨rfl, rfl⟩)
  obtain ⟨m38, f38⟩ := mv_fld (v := 1) ⟨by decide, by decide⟩ o36 w36 e38
  obtain ⟨m40, f40⟩ := mv_fld (v := 0) ⟨by decide, by decide⟩ m38.1 m38.2.1 e40
  have m3640 := m38.trans m40
  have w40 := m40.2.1
  have no : ∀ q : Nat, False → q ∈ nums a := fun _ z => z.elim
  have ns : ∀ x, x = a → ¬ (x = gd ∨ (gd + 13 ≤ x ∧ x ≤ gd + 29)) := fun x z => by omega
  have G40 : Gd M40 gd := gd_mv G36 w36 hgd m3640 no (fun _ z => z.elim) ns
  have inr : ∀ x, x = a → a ≤ x ∧ x ≤ a + 21191 := fun x z => by omega
  have F40 := F36.trans (FR.mv m3640 no inr)
  have ra40 := ra_mv (g := gm) w36 hgm m3640 no (fun _ z => z.elim) (fun x z => by omega)
  have agf : ∀ {Ma Mb : mM}, Wd Ma a → Mv (fun _ => False) (fun x => x = a) Ma a Mb → Ag Ma Mb (a + 117) (a + 117 + 21067) := fun {Ma Mb} wa mm x x1 x2 => by
    have hz := wa.2.2.2
    have f := mm.2.2.2.1
    exact ⟨(f.2.1 x (by omega)).1, (f.2.1 x (by omega)).2, f.2.2.1 x (by omega) (fun z => z), (f.2.2.2.1 x (by omega) (fun z => z) (fun q z => z.elim) (by omega)).1⟩
  have S40 : Sv M40 (a + 117) (mI M a 29).toNat := S36.ag (agf w36 m3640)
  have R40 : mR M40 a = mR M36 a := m3640.rfl_a w36 no
  rw [show mR M40 a 39 = a + 117 from w40.1.2.2.2.2.2.1.2.2.2.2.2.2.2.2]
  refine ⟨S40.1.1, (s_MS_clear m40.1 S40).mono (fun M43 t => ?_)⟩
  obtain ⟨o43, f43, S43, -⟩ := t
  have m43 := mv_sol o43 w40 f43
  have w43 := m43.2.1
  have nv : ∀ x, vF (a + 117) x → (a ≤ x ∧ x ≤ a + 21191) ∧ ¬ (x = gd ∨ (gd + 13 ≤ x ∧ x ≤ gd + 29)) := fun x z => by
    have z' : a + 117 ≤ x ∧ x ≤ a + 117 + 21067 := z
    omega
  have G43 : Gd M43 gd := gd_mv G40 w40 hgd m43 no (fun _ z => z.elim) (fun x z => (nv x z).2)
  have F43 := F40.trans (FR.mv m43 no (fun x z => (nv x z).1))
  have nva : ¬ vF (a + 117) a := fun z => by
    have z' : a + 117 ≤ a ∧ a ≤ a + 117 + 21067 := z
    omega
  have I43 := (m43.fld w40 no nva).1
  refine ⟨o43, w43.1.1, fun M47 e47 => ?_⟩
  obtain ⟨m47, f47⟩ := mv_fld (v := -1) ⟨by decide, by decide⟩ o43 w43 e47
  have w47 := m47.2.1
  have G47 : Gd M47 gd := gd_mv G43 w43 hgd m47 no (fun _ z => z.elim) ns
  have F47 := F43.trans (FR.mv m47 no inr)
  have S47 : Sv M47 (a + 117) 0 := S43.ag (agf w43 m47)
  have R47 : mR M47 a = mR M36 a := by rw [m47.rfl_a w43 no, m43.rfl_a w40 no, R40]
  have x29 : mI M47 a 29 = 0 := by rw [f47, if_neg (by decide), I43, f40, if_pos rfl]
  have y48 : mI M47 a 48 = mI M a 48 := by rw [f47, if_neg (by decide), I43, f40, if_neg (by decide), f38, if_neg (by decide), x48]
  have ls : ∀ {q}, q ∈ nums a → ln M47 q = ln M1 q := fun {q} hq => by rw [(m47.lst hq (fun z => z)).1, (m43.lst hq (fun z => z)).1, (m3640.lst hq (fun z => z)).1, (u.sl hq).1]
  have tp := w1.tape
  refine ⟨⟨by decide, by decide⟩, ⟨m47.1, w47, ⟨by rw [R47, hr 1 (by decide) (by decide)]; exact Tpl.nil (by rw [ls tp.1]; exact t1.1), by rw [R47, hr 2 (by decide) (by decide), ls tp.2.1]; exact t2⟩, ?_⟩, F47⟩
  rw [R47, r9]
  refine ⟨by rw [x29]; decide, by rw [x29]; exact S47, fun _ => G47, fun z => by rw [x29] at z; exact absurd z (by decide), by rw [y48]; exact h0.2.2.2.2⟩
end CMP2
