/-! The class at rest: the steps of compile. -/
section NDB
variable {G : mG} {d t x n cn cc bc T Kt N A B D Cw p O P K p' O' P' K' Ab Be Cm U Ag Bg Cg Ps Pc Ps1 Pc1 Kt' N' A1 B1 D1 Cw1 O1 P1 K1 Ab1 Be1 Cm1 N0 nw : Nat} {M M' M1 M2 : mM} {Z Y C : Nat → Prop} {v R k : Nat → Nat} {Ls : List Nat} {c9 c8 : tG9}
/-- the top alone has changed, and the text's side is known -/
theorem CJ.tonly (hj : CJ c9 C n t Ps Pc T Kt N A B D Cw p O P K p' O' P' K' Ab Be Cm U Ag Bg Cg cn cc bc Ls v R k Z M) (o : mOk M') (f : FC (fun x => x = t) M M') (zz : mZ M' = mZ M ∧ mS M' = mS M) (hr : ∀ i, 9 ≤ i → mR M' t i = mR M t i) (i18 : mI M' t 18 = mI M t 18) (t6 : 1 ≤ cn → mI M' t 6 ≠ 0) : Gm t U Ag Bg Cg cn cc bc n M' ∧ Ns Z t Ls v R k cn cc bc M' ∧ Ap Z C t T A B D O P O' P' Ab Be Ag Bg M' ∧ Rmc Kt Cw K K' Cm Cg Ps Pc Ls k M' ∧ (1 ≤ cn → mI M' t 6 ≠ 0) ∧ stp C Ps Pc M C Ps Pc M' := by
  obtain ⟨⟨z1, z2⟩, ⟨lt1, lt2⟩, -⟩ := hj.top
  obtain ⟨h1, h2, h3, h4, h5, h6, h7⟩ := hj
  obtain ⟨c1, -⟩ := h5.oc
  have n1 : ∀ y, y ≠ t → ¬ (fun x => x = t) y := fun y a b => a b
  obtain ⟨ns, pe, qe⟩ := h4.fc o f (fun x u w => by rw [u] at w; exact z1 w) (fun i hi => n1 _ (by omega)) (n1 _ (by omega)) lt2 hr i18
  refine ⟨h3.fc f (fun x a b => n1 x (by omega)), ns, h5.mz f.1.1, ?_, t6, f.mono (fun x _ u => by rw [u]; exact (c1 t (by omega) (by omega)).1), fun x u => Or.inl u, by rw [zz.2]; exact Nat.le_refl _, by rw [zz.1]; exact Nat.le_refl _⟩
  unfold Rmc
  rw [pe, qe]
  exact h6
theorem top_lo (h : Ap Z C t T A B D O P O' P' Ab Be Ag Bg M) (hx : Tx c9 t T Kt N A B D Cw p O P K p' O' P' K' Ab Be Cm M) : T ≠ t ∧ O ≠ t ∧ P ≠ t := by
  have o4 := hx.2.2.2.2.1.2.2.2.1
  have pp := hx.2.2.2.2.2.1
  have pT := h.2.2.1.1
  clear hx h
  omega
/-- an int of the top, of no weight -/
theorem CJ.tint {j : Nat} {a : Int} (hj : CJ c9 C n t Ps Pc T Kt N A B D Cw p O P K p' O' P' K' Ab Be Cm U Ag Bg Cg cn cc bc Ls v R k Z M) (ja : j ≠ 1 ∧ j ≠ 6 ∧ j ≠ 18) (ia : i32 a) (e : M' = mUI M t j a) : CJ c9 C n t Ps Pc T Kt N A B D Cw p O P K p' O' P' K' Ab Be Cm U Ag Bg Cg cn cc bc Ls v R k Z M' ∧ stp C Ps Pc M C Ps Pc M' := by
  have f : FI (fun x => x = t) M M' := by rw [e]; exact FI.ui rfl
  have o : mOk M' := by rw [e]; exact mOk_UI hj.1 ia
  have fc := f.fc (Z := fun x => x = t) (fun _ u => u)
  have it : ∀ i, i ≠ j → mI M' t i = mI M t i := fun i hi => by rw [e, mI_UI, if_neg (fun u => hi u.2)]
  obtain ⟨a1, a2, a3, a4, a5, a6⟩ := hj.tonly o fc ⟨f.2.2.2.2.1, f.2.2.2.2.2.1⟩ (fun i _ => by rw [f.2.2.1]) (it 18 (fun u => ja.2.2 u.symm)) (by rw [it 6 (fun u => ja.2.1 u.symm)]; exact hj.2.2.2.2.2.2)
  obtain ⟨b1, b2, b3⟩ := top_lo hj.2.2.2.2.1 hj.2.1
  exact ⟨⟨o, hj.2.1.fc o fc (fun x a b u => by have u' : x = t := u; omega) b1 b2 b3 (fun i _ => by rw [f.2.2.1]) (it 1 (fun u => ja.1 u.symm)) (it 6 (fun u => ja.2.1 u.symm)), a1, a2, a3, a4, a5⟩, a6⟩
/-- the tape is empty -/
theorem CJ.empty (hj : CJ c9 C n t Ps Pc T Kt N A B D Cw p O P K p' O' P' K' Ab Be Cm U Ag Bg Cg cn cc bc Ls v R k Z M) (e : M' = mUI M t 1 0) : CJ c9 C n t Ps Pc T Kt 0 A B D Cw p O P K p' O' P' K' Ab Be Cm U Ag Bg Cg cn cc bc Ls v R k Z M' ∧ stp C Ps Pc M C Ps Pc M' ∧ FI (fun x => x = t) M M' := by
  have f : FI (fun x => x = t) M M' := by rw [e]; exact FI.ui rfl
  have o : mOk M' := by rw [e]; exact mOk_UI hj.1 ⟨by decide, by decide⟩
  have fc := f.fc (Z := fun x => x = t) (fun _ u => u)
  have it : ∀ i, i ≠ 1 → mI M' t i = mI M t i := fun i hi => by rw [e, mI_UI, if_neg (fun u => hi u.2)]
  obtain ⟨a1, a2, a3, a4, a5, a6⟩ := hj.tonly o fc ⟨f.2.2.2.2.1, f.2.2.2.2.2.1⟩ (fun i _ => by rw [f.2.2.1]) (it 18 (by decide)) (by rw [it 6 (by decide)]; exact hj.2.2.2.2.2.2)
  obtain ⟨b1, b2, b3⟩ := top_lo hj.2.2.2.2.1 hj.2.1
  obtain ⟨⟨ta1, ta2, ta3⟩, ta4, ta5, ta6, ta9⟩ := hj.2.1.2.1
  have tap : Tap c9.1 M' t T Kt 0 := ⟨⟨by rw [f.1]; exact ta1, by rw [f.2.2.1]; exact ta2, by rw [e, mI_UI, if_pos ⟨rfl, rfl⟩]; rfl⟩, by rw [f.1, f.2.1]; exact ta4, by rw [f.2.2.2.2.1]; exact ta5, ⟨Nat.zero_le _, Nat.zero_le _, ta6.2.2⟩, fun j hj => absurd hj (Nat.not_lt_zero _)⟩
  exact ⟨⟨o, hj.2.1.tap o fc (fun x a b u => by have u' : x = t := u; omega) b2 b3 (fun i _ => by rw [f.2.2.1]) (it 6 (by decide)) tap, a1, a2, a3, a4, a5⟩, a6, f⟩
theorem nd9w {T A B D O P : Nat} {r : List Nat} (nd : (T :: A :: B :: D :: O :: P :: r).Nodup) : (T ≠ A ∧ T ≠ B ∧ T ≠ D) ∧ (O ≠ A ∧ O ≠ B ∧ O ≠ D) ∧ (P ≠ A ∧ P ≠ B ∧ P ≠ D) := by
  simp only [List.nodup_cons, List.mem_cons, not_or] at nd
  obtain ⟨⟨t1, t2, t3, -⟩, ⟨-, -, a1, a2, -⟩, ⟨-, b1, b2, -⟩, ⟨d1, d2, -⟩, -⟩ := nd
  exact ⟨⟨t1, t2, t3⟩, ⟨fun e => a1 e.symm, fun e => b1 e.symm, fun e => d1 e.symm⟩, ⟨fun e => a2 e.symm, fun e => b2 e.symm, fun e => d2 e.symm⟩⟩
theorem wl1 {t A B D x : Nat} (pA : A = t + 4 ∨ t + 236 ≤ A) (pB : B = t + 5 ∨ t + 236 ≤ B) (pD : D = t + 6 ∨ t + 236 ≤ D) (h : x = t ∨ (t + 7 ≤ x ∧ x < t + 236)) (u : x = t + 2 ∨ x = A ∨ x = B ∨ x = D) : False := by
  rcases u with u | u | u | u
  · clear pA pB pD; omega
  · clear pB pD; omega
  · clear pA pD; omega
  · clear pA pB; omega
theorem wl2 {t T A B D : Nat} (h : T ≠ t + 2) (a : T ≠ A ∧ T ≠ B ∧ T ≠ D) (u : T = t + 2 ∨ T = A ∨ T = B ∨ T = D) : False := by
  rcases u with u | u | u | u
  · exact h u
  · exact a.1 u
  · exact a.2.1 u
  · exact a.2.2 u
theorem wl3 {t p p' O : Nat} {i : Nat} (o : O = p + i ∨ t + 236 ≤ O) (pp : (p = t + 30 ∧ p' = t + 46) ∨ (p = t + 46 ∧ p' = t + 30)) : O ≠ t + 2 ∧ O ≠ t := by omega
/-- cells of the words -/
theorem wo_lo (h : Ap Z C t T A B D O P O' P' Ab Be Ag Bg M) (hx : Tx c9 t T Kt N A B D Cw p O P K p' O' P' K' Ab Be Cm M) : (∀ x, t + 7 ≤ x → x < t + 236 → ¬ woA (t + 2) A B D x) ∧ (¬ woA (t + 2) A B D T ∧ ¬ woA (t + 2) A B D O ∧ ¬ woA (t + 2) A B D P) ∧ (∀ x, woA (t + 2) A B D x → C x ∧ ¬ Z x) ∧ ¬ woA (t + 2) A B D t := by
  obtain ⟨z1, -⟩ := h.nz
  obtain ⟨c1, c2, c3⟩ := h.oc
  have o4 := hx.2.2.2.2.1.2.2.2.1
  have pp := hx.2.2.2.2.2.1
  have pT := h.2.2.1
  have hn := h.1
  have nd := h.2.1
  clear hx
  obtain ⟨a1, a2, a3⟩ := nd9w nd
  obtain ⟨p1, p2, p3, p4⟩ := pT
  clear nd h
  have nT : T ≠ t + 2 := by clear a1 a2 a3 p2 p3 p4 o4 pp; omega
  unfold woA
  refine ⟨fun x a b u => wl1 p2 p3 p4 (Or.inr ⟨a, b⟩) u, ⟨fun u => wl2 nT a1 u, fun u => wl2 (wl3 o4.1 pp).1 a2 u, fun u => wl2 (wl3 o4.2.1 pp).1 a3 u⟩, fun x u => ?_, fun u => wl1 p2 p3 p4 (Or.inl rfl) u⟩
  rcases u with u | u | u | u
  · rw [u]; exact ⟨(c1 _ (by omega) (by omega)).1, z1 _ (by omega) (by omega)⟩
  · rw [u]; exact ⟨(c3 A (by simp)).1, hn _ (Or.inr (Or.inr (by simp)))⟩
  · rw [u]; exact ⟨(c3 B (by simp)).1, hn _ (Or.inr (Or.inr (by simp)))⟩
  · rw [u]; exact ⟨(c3 D (by simp)).1, hn _ (Or.inr (Or.inr (by simp)))⟩
theorem Ap.words (h : Ap Z C t T A B D O P O' P' Ab Be Ag Bg M) (hz : mZ M ≤ mZ M') (t5 : t + 236 ≤ mZ M) (gr : grw M A B D Cw M' A1 B1 D1 Cw1) : Ap Z (Zn C M M') t T A1 B1 D1 O P O' P' Ab Be Ag Bg M' := by
  obtain ⟨c1, c2, c3⟩ := h.oc
  have pl := h.2.2.1
  rcases gr with ⟨e1, e2, e3, -⟩ | ⟨e1, e2, e3, -, z1, -⟩
  · subst e1 e2 e3
    exact h.re hz h.2.1 pl (fun x hx => Or.inl hx)
  · have nd : ([T] ++ ([A, B, D] ++ [O, P, O', P', Ab, Be, Ag, Bg])).Nodup := h.2.1
    have nd' : ([T] ++ ([A1, B1, D1] ++ [O, P, O', P', Ab, Be, Ag, Bg])).Nodup := nd_mid nd (z := mZ M) (fun x hx => (c3 x (by rw [List.mem_singleton.mp hx]; simp)).2) (fun x hx => (c3 x (List.mem_append.mpr (Or.inr hx) : x ∈ [T, A, B, D] ++ [O, P, O', P', Ab, Be, Ag, Bg])).2) (fun x hx => by
      simp only [List.mem_cons, List.not_mem_nil, or_false] at hx
      right; omega) (by simp; omega)
    refine h.re hz nd' ⟨pl.1, by omega, by omega, by omega⟩ (fun x hx => ?_)
    rcases List.mem_append.mp (show x ∈ [T] ++ ([A1, B1, D1] ++ [O, P, O', P', Ab, Be, Ag, Bg]) from hx) with u | u
    · rw [List.mem_singleton.mp u]; exact Or.inl (by simp)
    · rcases List.mem_append.mp u with u | u
      · simp only [List.mem_cons, List.not_mem_nil, or_false] at u
        right; omega
      · exact Or.inl (List.mem_append.mpr (Or.inr u) : x ∈ [T, A, B, D] ++ [O, P, O', P', Ab, Be, Ag, Bg])
theorem rmc_words (h6 : Rmc Kt Cw K K' Cm Cg Ps Pc Ls k M) (pe : Pn Ls k M' = Pn Ls k M ∧ Qn Ls k M' = Qn Ls k M) (c8 : 128 ≤ Cw) (gr : grw M A B D Cw M' A1 B1 D1 Cw1) : Rmc Kt Cw1 K K' Cm Cg (Ps + 6 * Cw1 - 6 * Cw) (Pc + 2 * Cw1 - 2 * Cw) Ls k M' ∧ mS M' + Ps ≤ mS M + (Ps + 6 * Cw1 - 6 * Cw) ∧ 64 * mZ M' + Pc ≤ 64 * mZ M + (Pc + 2 * Cw1 - 2 * Cw) := by
  unfold Rmc at h6 ⊢
  unfold grw at gr
  rw [pe.1, pe.2]
  rcases gr with g | g <;> exact ⟨⟨by omega, by omega, h6.2.2⟩, by omega, by omega⟩
/-- the words of a tape are read -/
theorem CJ.words (hj : CJ c9 C n t Ps Pc T Kt N A B D Cw p O P K p' O' P' K' Ab Be Cm U Ag Bg Cg cn cc bc Ls v R k Z M) (o : mOk M') (fa : FA (woA (t + 2) A B D) (fun x => x = t + 2) M M') (wb : WB M' (t + 2) A1 B1 D1 Cw1) (gr : grw M A B D Cw M' A1 B1 D1 Cw1) : ∃ Ps1 Pc1, CJ c9 (Zn C M M') n t Ps1 Pc1 T Kt N A1 B1 D1 Cw1 p O P K p' O' P' K' Ab Be Cm U Ag Bg Cg cn cc bc Ls v R k Z M' ∧ stp C Ps Pc M (Zn C M M') Ps1 Pc1 M' ∧ mR M' t = mR M t ∧ mI M' t = mI M t ∧ (∀ i, i ≤ 9 → mI M' (t + 62 + i) = mI M (t + 62 + i)) ∧ mI M' (v 0) = mI M (v 0) := by
  have hj0 := hj
  obtain ⟨-, ⟨lt1, lt2⟩, -⟩ := hj.top
  obtain ⟨h1, h2, h3, h4, h5, h6, h7⟩ := hj
  obtain ⟨y1, ⟨y3, y4, y5⟩, y6, y7⟩ := wo_lo h5 h2
  have fc : FC (woA (t + 2) A B D) M M' := fa.fc (fun _ u => u) (fun x u => Or.inl u)
  obtain ⟨-, er, ei⟩ := (fc.2 t lt1).2.2 y7
  obtain ⟨w1, w2, w3, w4, w5, w6, w7, w8⟩ := h2
  have c8 := w3.2.2.2.2.2.2.1
  have tx : Tx c9 t T Kt N A1 B1 D1 Cw1 p O P K p' O' P' K' Ab Be Cm M' := by
    refine ⟨by rw [er]; exact w1, w2.fc fc y3 (by rw [er]) (by rw [ei]), wb, w4.fc o fc (fun x a b => y1 x (by omega) (by omega)) (y1 _ (by omega) (by omega)), w5.fc fc (y1 _ (by omega) (by omega)), w6, fun u => ?_, w8.fc fc w5 (by rw [ei]) (fun i hi => y1 _ (by omega) (by omega)) y4 y5⟩
    rw [ei] at u
    obtain ⟨V, F, ns, sf, ef, L, cnt, hw⟩ := w7 u
    exact ⟨V, F, ns, sf, ef, L, cnt, hw.fc fc (fun i hi => y1 _ (by omega) (by omega)) y4 y5⟩
  obtain ⟨ns, pq⟩ := h4.fc o fc (fun x u => (y6 x u).2) (fun i hi => y1 _ (by omega) (by omega)) (y1 _ (by omega) (by omega)) lt2 (fun i _ => by rw [er]) (by rw [ei])
  obtain ⟨rm, s1, s2⟩ := rmc_words h6 pq c8 gr
  exact ⟨_, _, ⟨o, tx, h3.fc fc (fun x a b => y1 x (by omega) (by omega)), ns, h5.words fc.1.1 (by omega) gr, rm, by rw [ei]; exact h7⟩, ⟨fc.mono (fun x _ u => (y6 x u).1), fun x u => u, s1, s2⟩, er, ei, fun i hi => (fc.sm (by clear hj0; omega) (y1 _ (by omega) (by omega))).2.2.2, hj0.vfc fc (fun x u => (y6 x u).2)⟩
end NDB
