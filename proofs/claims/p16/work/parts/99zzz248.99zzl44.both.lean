/-! Class and reference side by side: each is left alone by the other's steps. -/
section NDE
variable {Nt9 : tP9} {G : mG} {y : mY} {d t a x n p Ps Pc : Nat} {As : List mV} {M M' : mM} {Y C : Nat → Prop} {c9 c8 : tG9}
theorem Ci.mz {Q : Int → mM → Prop} (h : Ci G y d As M Q) : Ci G y d As M (fun r M' => Q r M' ∧ mZ M ≤ mZ M' ∧ mS M ≤ mS M') := by
  obtain ⟨r, M1, h1, x, e, h2⟩ := h
  exact ⟨r, M1, h1, x, e, h2, h1.1⟩
theorem Cv.mz {Q : mM → Prop} (h : Cv G y d As M Q) : Cv G y d As M (fun M' => Q M' ∧ mZ M ≤ mZ M' ∧ mS M ≤ mS M') := by
  obtain ⟨r, M1, h1, e, h2⟩ := h
  exact ⟨r, M1, h1, e, h2, h1.1⟩
theorem FR.fc (h : FR M a M') (hs : mS M ≤ mS M') : FC (own M a) M M' := by
  obtain ⟨h1, h2, h3, -⟩ := h
  exact ⟨⟨h1, hs⟩, fun x hx => ⟨(h2 x hx).1, (h2 x hx).2, fun nz => ⟨(h3 x hx nz).2.2, (h3 x hx nz).1, (h3 x hx nz).2.1⟩⟩⟩
theorem Nu.sm (h : Nu M p) (hp : Sm M M' p) (hA : Sm M M' (mR M p 0)) (hz : mZ M ≤ mZ M') : Nu M' p ∧ sameN M M' p := by
  obtain ⟨h1, h2, ⟨h3, h4⟩, h5, h6⟩ := h
  have ec : cp M' p = cp M p := by unfold cp; rw [hp.2.2.1, hA.2.1]
  exact ⟨⟨by rw [hp.1]; exact h1, by rw [hp.2.2.1, hA.1]; exact h2, ⟨by omega, by rw [hp.2.2.1]; omega⟩, by rw [hp.2.2.2, ec]; exact h5, by rw [ec]; exact h6⟩, by unfold ln; rw [hp.2.2.2], fun j => by unfold nt; rw [hp.2.2.1, hA.2.2.2], ec, hp.2.2.1⟩
/-- the reference is left alone -/
theorem RI.off (h : RI Nt9 M a) (o : mOk M') (f : FC Y M M') (hY : ∀ x, Y x → ¬ own M a x) : RI Nt9 M' a ∧ (∀ q, q ∈ nums a → sameN M M' q) ∧ (∀ x, own M' a x ↔ own M a x) := by
  have hxe := h.xe
  obtain ⟨-, w, ⟨l1, l2⟩, rx⟩ := h.r0
  have hz := f.1.1
  have zz := w.2.2.2
  have no : ∀ x, own M a x → ¬ Y x := fun x u v => hY x v u
  have sm : ∀ x, a ≤ x → x ≤ a + 21191 → Sm M M' x ∧ mL M' x = mL M x := fun x b c => ⟨f.sm (by omega) (no x (Or.inl ⟨b, c⟩)), ((f.2 x (by omega)).2.2 (no x (Or.inl ⟨b, c⟩))).1⟩
  have hin : ∀ q, q ∈ nums a → a ≤ q ∧ q ≤ a + 21191 := fun q hq => by have := nums_in hq; omega
  have nus : ∀ q, q ∈ nums a → Nu M' q ∧ sameN M M' q := fun q hq => (w.nu hq).sm (sm q (hin q hq).1 (hin q hq).2).1 (f.sm (w.nu hq).2.2.1.2 (no _ (Or.inr ⟨q, hq, rfl⟩))) hz
  have s0 := sm a (by omega) (by omega)
  have r9 : mR M' a = mR M a := s0.1.2.2.1
  have w' : Wd M' a := by
    refine ⟨pl_same zz (fun x hx => (f.2 x hx).1) (fun x hx => (f.2 x hx).2.1) r9 (sm (a + 13) (by omega) (by omega)).1.2.2.1 (sm (a + 49) (by omega) (by omega)).1.2.2.1 w.1, fun q hq => ⟨(nus q hq).1, ?_, ?_⟩, fun p q hp hq hne => ?_, by omega⟩
    · rw [(nus q hq).2.2.2.2]; exact (w.arr hq).2
    · rw [(nus q hq).2.2.2.1]; exact w.bd hq
    · rw [(nus p hp).2.2.2.2, (nus q hq).2.2.2.2]; exact w.2.2.1 p q hp hq hne
  have hg := w.g9
  have sl9 : ∀ q, q ∈ nums a → sl M M' q := fun q hq => (nus q hq).2.sl
  have xe : xeF M M' a := ⟨by rw [s0.1.2.2.2]; exact ⟨rfl, rfl, rfl⟩, ⟨(sm _ (by omega) (by omega)).1.2.2.2, (sm _ (by omega) (by omega)).1.2.2.2, (sm _ (by omega) (by omega)).1.2.2.2, (sm _ (by omega) (by omega)).1.2.2.2, (sm _ (by omega) (by omega)).1.2.2.2⟩, ⟨(sm _ (by omega) (by omega)).2, (sm _ (by omega) (by omega)).2⟩, sl9 _ (nums_o (by decide)), sl9 _ (nums_o (by decide)), sl9 _ (nums_o (by decide)), sl9 _ (nums_o (by decide)), by rw [(sm (a + 117) (by omega) (by omega)).1.2.2.2], fun i p q => (sm (a + 117 + i) (by omega) (by omega)).1.2.2.2⟩
  have ra : RA M M' a (mR M a 9) := by
    refine ⟨by rw [s0.1.2.2.2]; exact ⟨rfl, rfl, rfl⟩, fun x x1 x2 => ⟨(sm x (by omega) (by omega)).1.1, (sm x (by omega) (by omega)).1.2.1, (sm x (by omega) (by omega)).1.2.2.1, (sm x (by omega) (by omega)).1.2.2.2⟩, ⟨sl9 _ (nums_o (by decide)), sl9 _ (nums_o (by decide)), sl9 _ (nums_o (by decide))⟩, ⟨(sm _ (by omega) (by omega)).1.2.2.2, (sm _ (by omega) (by omega)).1.2.2.2⟩, fun q hq => sl9 q (gL9_in hg hq), (sm _ (by rcases hg with e | e <;> rw [e] <;> omega) (by rcases hg with e | e <;> rw [e] <;> omega)).1.2.2.2, fun i i1 i2 => ?_, xe⟩
    have := sm (mR M a 9 + i) (by rcases hg with e | e <;> rw [e] <;> omega) (by rcases hg with e | e <;> rw [e] <;> omega)
    exact ⟨this.1.2.2.2, this.2⟩
  refine ⟨RI0.ri ⟨o, w', ?_, by rw [r9]; exact rx.ra ra⟩ (hxe.xe xe (by rw [s0.1.2.2.2]) (by rw [(sm (a + 117 + 30) (by omega) (by omega)).1.2.2.2])), fun q hq => (nus q hq).2, fun x => ?_⟩
  · rw [r9]; exact ⟨l1.sm (nus _ w.tape.1).2, by rw [(nus _ w.tape.2.1).2.1]; exact l2⟩
  · unfold own
    constructor
    · rintro (u | ⟨q, hq, u⟩)
      · exact Or.inl u
      · exact Or.inr ⟨q, hq, by rw [u, (nus q hq).2.2.2.2]⟩
    · rintro (u | ⟨q, hq, u⟩)
      · exact Or.inl u
      · exact Or.inr ⟨q, hq, by rw [u, (nus q hq).2.2.2.2]⟩
/-- the class is left alone -/
theorem CI.off (h : CI c9 C n t Ps Pc M) (o : mOk M') (f : FC Y M M') (hY : ∀ x, Y x → ¬ C x) : CI c9 C n t Ps Pc M' ∧ mI M' t = mI M t ∧ mR M' t = mR M t := by
  obtain ⟨T, Kt, N, A, B, D, Cw, p, O, P, K, p', O', P', K', Ab, Be, Cm, U, Ag, Bg, Cg, cn, cc, bc, Ls, v, R, k, Z, hj⟩ := h
  obtain ⟨-, ⟨lt1, lt2⟩, -⟩ := hj.top
  obtain ⟨h1, h2, h3, h4, h5, h6, h7⟩ := hj
  obtain ⟨c1, c2, c3⟩ := h5.oc
  have no : ∀ x, C x → ¬ Y x := fun x u v => hY x v u
  obtain ⟨-, er, ei⟩ := (f.2 t lt1).2.2 (no t (c1 t (by omega) (by omega)).1)
  obtain ⟨ns, pe, qe⟩ := h4.fc o f (fun x u w => no x (c2 x w).1 u) (fun i hi => no _ (c1 _ (by omega) (by omega)).1) (no _ (c1 _ (by omega) (by omega)).1) lt2 (fun i _ => by rw [er]) (by rw [ei])
  refine ⟨⟨T, Kt, N, A, B, D, Cw, p, O, P, K, p', O', P', K', Ab, Be, Cm, U, Ag, Bg, Cg, cn, cc, bc, Ls, v, R, k, Z, o, h2.fc o f (fun x a b => no x (c1 x (by omega) (by omega)).1) (no T (c3 T (by simp)).1) (no O (c3 O (by simp)).1) (no P (c3 P (by simp)).1) (fun i _ => by rw [er]) (by rw [ei]) (by rw [ei]), h3.fc f (fun x a b => no x (c1 x (by omega) (by omega)).1), ns, h5.mz f.1.1, ?_, by rw [ei]; exact h7⟩, ei, er⟩
  unfold Rmc
  rw [pe, qe]
  exact h6
theorem tE.off {Nn : tP9} (h : CI c9 C n t Ps Pc M) (f : FC Y M M') (hY : ∀ x, Y x → ¬ C x) (e : tE Nn M t) : tE Nn M' t := by
  obtain ⟨T, Kt, N, A, B, D, Cw, p, O, P, K, p', O', P', K', Ab, Be, Cm, U, Ag, Bg, Cg, cn, cc, bc, Ls, v, R, k, Z, hj⟩ := h
  obtain ⟨c1, c2, c3⟩ := hj.2.2.2.2.1.oc
  have s : ∀ x, t ≤ x → x < t + 236 → mI M' x = mI M x := fun x a b => (f.sm (c1 x a b).2 (fun u => hY x u (c1 x a b).1)).2.2.2
  have st := s t (Nat.le_refl _) (by omega)
  have er := (f.sm (c1 t (Nat.le_refl _) (by omega)).2 (fun u => hY t u (c1 t (Nat.le_refl _) (by omega)).1)).2.2.1
  exact sE.trans ⟨by rw [st], by rw [st], by rw [st], fun i hi _ => s _ (by omega) (by omega), hj.knf (by rw [er]) (by rw [hj.vfc f (fun x u w => hY x u (c2 x w).1)])⟩ e
end NDE
