/-! THE LAW: it answers 1 and keeps to its room. -/
theorem law_ok : lawOk := by
  intro G b N xs h0 hb hN hx hL hP hT hNc
  have hH : LHy G := ⟨hT, s_JM_floorMod, NSx.of hL, WKx.of hL, hNc⟩
  obtain ⟨M, eM⟩ : ∃ M, M = m0 b N (gB G) xs := ⟨_, rfl⟩
  rw [← eM]
  have hz : mZ M = gB G := by rw [eM]; rfl
  have hs : mS M = 0 := by rw [eM]; rfl
  have hI : ∀ y j, mI M y j = if y = b ∧ j < N then xs j else 0 := fun y j => by rw [eM]; rfl
  have hO : mOk M := fun y j => ⟨by rw [hI]; split; exact hx _; exact i32_0, by rw [eM]; exact (show i64 0 from ⟨by decide, by decide⟩)⟩
  have sc : Scr b N xs M := ⟨by rw [eM]; exact if_pos rfl, by rw [eM]; exact if_pos rfl, fun j j0 j1 => by rw [hI, if_pos ⟨rfl, by omega⟩]; congr 1; omega⟩
  refine la_start (d := 39) ?_
  refine (s_CA_init (d := 34) (t := mZ M) (M0 := M) (by omega) hO rfl rfl).mono (fun M2 q2 => ?_)
  obtain ⟨o2, z2, s2, f2, p2⟩ := q2
  obtain ⟨Ps, Pc, c2, l2⟩ := st_ci (c9 := fun _ => 0) p2 o2 z2
  refine (s_MM_init (d := 33) (a := mZ M2) (M0 := M2) (by omega) o2 rfl rfl).mono (fun M4 q4 => ?_)
  obtain ⟨o4, z4, s4, f4, r4, n4⟩ := q4
  obtain ⟨M5, e5⟩ : ∃ M5, M5 = mNew M4 33 1 1 := ⟨_, rfl⟩
  rw [← e5]
  have z5 : mZ M5 = mZ M4 + 1 := by rw [e5]; rfl
  have s5 : mS M5 = mS M4 + 1 := by rw [e5]; rfl
  have o5 : mOk M5 := by rw [e5]; exact mOk_New o4
  have E45 : ∀ y, y < mZ M4 → Eqc M4 M5 y := fun y hy => by rw [e5]; exact eqc_new (by omega)
  have F : ∀ {A B : mM}, mZ A ≤ mZ B → mS A ≤ mS B → (∀ y, y < mZ A → Eqc A B y) → FC (fun _ => False) A B := fun h1 h2 h3 => ⟨⟨h1, h2⟩, fun y hy => ⟨(h3 y hy).1, (h3 y hy).2.1, fun _ => ⟨(h3 y hy).2.2.2.1, (h3 y hy).2.2.2.2, (h3 y hy).2.2.1⟩⟩⟩
  have f45 := F (A := M4) (B := M5) (by omega) (by omega) E45
  have f25 := F (A := M2) (B := M5) (by omega) (by omega) (fun y hy => (f4 y hy).trans (E45 y (by omega)))
  have fM5 := F (A := M) (B := M5) (by omega) (by omega) (fun y hy => ((f2 y hy).trans (f4 y (by omega))).trans (E45 y (by omega)))
  obtain ⟨c5, i5, -⟩ := c2.off o5 f25 (fun _ u => u.elim)
  obtain ⟨r5, -, w5⟩ := r4.off o5 f45 (fun _ u => u.elim)
  have ow : ∀ y, own M4 (mZ M2) y → mZ M2 ≤ y ∧ y < mZ M4 := fun y u => by
    have := r4.ownlt u
    exact ⟨this.2, this.1⟩
  have inv : IV (mZ M4) (mZ M2) b N xs (mZ M) (mS M5) (64 * mZ M5) 0 (z9 (0, 0, 0, 0, x09, e09)) (z9 (0, 0, 0, 0, x09, e09)) M5 := by
    refine ⟨_, Ps, Pc, c5, r5, tE.off c2 f25 (fun _ u => u.elim) l2, fun y u => ?_, ⟨sc.fc fM5 (by omega) id, by omega, by omega⟩, ⟨by rw [e5]; exact if_pos rfl, ?_, by omega, fun v => ?_⟩, by omega, by omega⟩
    · have u' : mZ M ≤ y ∧ y < mZ M + 236 := u
      exact ⟨u'.1, fun v => by have := ow y ((w5 y).1 v); omega, by omega⟩
    · rw [show mN M5 (mZ M4) = 1 by rw [e5]; exact if_pos rfl]; decide
    · have := ow _ ((w5 _).1 v)
      omega
  have lp := la_loop (G := G) (Q := fun r M' => r = some (vi 1) ∧ mZ M' ≤ gB G + 601024 ∧ mS M' ≤ 7293034) hH hx hN (fun n Nx M' hn h => by
    obtain ⟨C, Ps, Pc, h⟩ := h
    have := h.fin
    exact ⟨rfl, by omega, by omega⟩) 513 0 (z9 (0, 0, 0, 0, x09, e09)) M5 rfl (by omega) inv
  exact lp
theorem i_vc : Claimed_1_1 ∧ Claimed_1_2 := i_of law_ok
