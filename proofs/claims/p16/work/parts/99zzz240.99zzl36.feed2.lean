/-! The class at rest: cells that are made anew; end. -/
section NCW
variable {G : mG} {d t x n cn cc bc T Kt N A B D Cw p O P K p' O' P' K' Ab Be Cm U Ag Bg Cg Ps Pc T1 A1 B1 D1 O1 P1 O2 P2 Ab1 Be1 Ag1 Bg1 Kt' N' : Nat} {M M' M1 : mM} {Z Y C : Nat → Prop} {v R k : Nat → Nat} {Ls : List Nat} {c9 c8 : tG9}
theorem Ap.nz (h : Ap Z C t T A B D O P O' P' Ab Be Ag Bg M) : (∀ x, t ≤ x → x < t + 85 → ¬ Z x) ∧ ¬ Z (t + 235) ∧ (¬ Z T ∧ ¬ Z O ∧ ¬ Z P) := ⟨fun x a b => h.1 x (Or.inl ⟨a, b⟩), h.1 _ (Or.inr (Or.inl rfl)), h.1 _ (Or.inr (Or.inr (by simp))), h.1 _ (Or.inr (Or.inr (by simp))), h.1 _ (Or.inr (Or.inr (by simp)))⟩
theorem Ap.oc (h : Ap Z C t T A B D O P O' P' Ab Be Ag Bg M) : (∀ x, t ≤ x → x < t + 236 → C x ∧ x < mZ M) ∧ (∀ x, Z x → C x ∧ x < mZ M) ∧ (∀ x, x ∈ [T, A, B, D, O, P, O', P', Ab, Be, Ag, Bg] → C x ∧ x < mZ M) := by
  obtain ⟨-, -, -, h4, h5⟩ := h
  exact ⟨fun x a b => ⟨h4 x (Or.inl ⟨a, b⟩), h5 x (h4 x (Or.inl ⟨a, b⟩))⟩, fun x a => ⟨h4 x (Or.inr (Or.inl a)), h5 x (h4 x (Or.inr (Or.inl a)))⟩, fun x a => ⟨h4 x (Or.inr (Or.inr a)), h5 x (h4 x (Or.inr (Or.inr a)))⟩⟩
/-- the same cells, later -/
theorem Ap.mz (h : Ap Z C t T A B D O P O' P' Ab Be Ag Bg M) (hz : mZ M ≤ mZ M') : Ap Z C t T A B D O P O' P' Ab Be Ag Bg M' := ⟨h.1, h.2.1, h.2.2.1, h.2.2.2.1, fun x u => Nat.lt_of_lt_of_le (h.2.2.2.2 x u) hz⟩
/-- arrays have been made anew -/
theorem Ap.re (h : Ap Z C t T A B D O P O' P' Ab Be Ag Bg M) (hz : mZ M ≤ mZ M') (nd : [T1, A1, B1, D1, O1, P1, O2, P2, Ab1, Be1, Ag1, Bg1].Nodup) (pl : (T1 = t + 1 ∨ t + 236 ≤ T1) ∧ (A1 = t + 4 ∨ t + 236 ≤ A1) ∧ (B1 = t + 5 ∨ t + 236 ≤ B1) ∧ (D1 = t + 6 ∨ t + 236 ≤ D1)) (old : ∀ x, x ∈ [T1, A1, B1, D1, O1, P1, O2, P2, Ab1, Be1, Ag1, Bg1] → x ∈ [T, A, B, D, O, P, O', P', Ab, Be, Ag, Bg] ∨ (mZ M ≤ x ∧ x < mZ M')) : Ap Z (Zn C M M') t T1 A1 B1 D1 O1 P1 O2 P2 Ab1 Be1 Ag1 Bg1 M' := by
  obtain ⟨c1, c2, c3⟩ := h.oc
  obtain ⟨h1, -, -, h4, h5⟩ := h
  refine ⟨fun x hx => ?_, nd, pl, fun x hx => ?_, fun x hx => ?_⟩
  · rcases hx with u | u | u
    · exact h1 x (Or.inl u)
    · exact h1 x (Or.inr (Or.inl u))
    · rcases old x u with w | w
      · exact h1 x (Or.inr (Or.inr w))
      · intro zx
        have := (c2 x zx).2
        omega
  · rcases hx with u | u | u
    · exact Or.inl (c1 x u.1 u.2).1
    · exact Or.inl (c2 x u).1
    · rcases old x u with w | w
      · exact Or.inl (c3 x w).1
      · exact Or.inr w
  · rcases hx with u | u
    · have := h5 x u; omega
    · exact u.2
/-- numbers have been made -/
theorem Ap.zn (h : Ap Z C t T A B D O P O' P' Ab Be Ag Bg M) (hz : mZ M ≤ mZ M') : Ap (Zn Z M M') (Zn C M M') t T A B D O P O' P' Ab Be Ag Bg M' := by
  obtain ⟨c1, c2, c3⟩ := h.oc
  obtain ⟨h1, h2, h3, h4, h5⟩ := h
  refine ⟨fun x hx u => ?_, h2, h3, fun x hx => ?_, fun x hx => ?_⟩
  · have lt : x < mZ M := by
      rcases hx with w | w | w
      · exact (c1 x w.1 (by omega)).2
      · exact (c1 x (by omega) (by omega)).2
      · exact (c3 x w).2
    rcases u with u | u
    · exact h1 x hx u
    · omega
  · rcases hx with u | (u | u) | u
    · exact Or.inl (c1 x u.1 u.2).1
    · exact Or.inl (c2 x u).1
    · exact Or.inr u
    · exact Or.inl (c3 x u).1
  · rcases hx with u | u
    · have := h5 x u; omega
    · exact u.2
/-- the text's side with another tape -/
theorem Tx.tap {c7 : Nat → Int} (h : Tx c9 t T Kt N A B D Cw p O P K p' O' P' K' Ab Be Cm M) (o : mOk M') (f : FC Y M M') (hz : ∀ x, t + 2 ≤ x → x < t + 62 → ¬ Y x) (nO : ¬ Y O) (nP : ¬ Y P) (hr : ∀ i, 2 ≤ i → mR M' t i = mR M t i) (i6 : mI M' t 6 = mI M t 6) (tap : Tap c7 M' t T1 Kt' N') : Tx (c7, c9.2) t T1 Kt' N' A B D Cw p O P K p' O' P' K' Ab Be Cm M' := by
  obtain ⟨h1, h2, h3, h4, h5, h6, h7, h8⟩ := h
  refine ⟨by rw [hr 2 (by decide), hr 3 (by decide), hr 4 (by decide), hr 5 (by decide)]; exact h1, tap, h3.fc f (hz _ (by omega) (by omega)), h4.fc o f (fun x a b => hz x (by omega) (by omega)) (hz _ (by omega) (by omega)), h5.fc f (hz _ (by omega) (by omega)), h6, fun u => ?_, h8.fc f h5 i6 (fun i hi => hz _ (by omega) (by omega)) nO nP⟩
  rw [i6] at u
  obtain ⟨V, F, ns, sf, ef, L, cnt, hw⟩ := h7 u
  exact ⟨V, F, ns, sf, ef, L, cnt, hw.fc f (fun i hi => hz _ (by omega) (by omega)) nO nP⟩
theorem sta2_lo (pT : T = t + 1 ∨ t + 236 ≤ T) : (∀ x, t + 2 ≤ x → x < t + 62 → ¬ Sta2 t T x) ∧ (∀ x, t + 62 ≤ x → x < t + 85 → ¬ Sta2 t T x) ∧ ¬ Sta2 t T (t + 235) ∧ (∀ i, i ≤ 9 → ¬ Sta2 t T (t + 62 + i)) := by
  unfold Sta2
  exact ⟨fun x a b u => by omega, fun x a b u => by omega, fun u => by omega, fun i a u => by omega⟩
/-- what is outside the numbers -/
theorem sta2_z (h : Ap Z C t T A B D O P O' P' Ab Be Ag Bg M) (hx : Tx c9 t T Kt N A B D Cw p O P K p' O' P' K' Ab Be Cm M) : (∀ x, Sta2 t T x → ¬ Z x ∧ C x) ∧ ¬ Sta2 t T O ∧ ¬ Sta2 t T P ∧ t + 235 < mZ M ∧ t + 236 ≤ mZ M := by
  obtain ⟨z1, z2, z3, z4, z5⟩ := h.nz
  obtain ⟨c1, c2, c3⟩ := h.oc
  have tn := (List.nodup_cons.1 h.2.1).1
  have o4 := hx.2.2.2.2.1.2.2.2.1
  have pp := hx.2.2.2.2.2.1
  clear hx
  refine ⟨fun x u => ?_, fun u => ?_, fun u => ?_, (c1 _ (by omega) (by omega)).2, (c1 (t + 235) (by omega) (by omega)).2⟩
  · rcases u with u | u
    · rw [u]; exact ⟨z1 t (by omega) (by omega), (c1 t (by omega) (by omega)).1⟩
    · rw [u]; exact ⟨z3, (c3 T (by simp)).1⟩
  · rcases u with u | u
    · omega
    · exact tn (by rw [← u]; simp)
  · rcases u with u | u
    · omega
    · exact tn (by rw [← u]; simp)
theorem c_CA_end {l : Int} (il : i32 l) (h : CI c9 C n t Ps Pc M) (hl : 0 ≤ l ∧ l ≤ 20 ∧ 20 ≤ mI M t 1) : Ci G y_CA_end d [vr t, vi l] M (fun r M' => i32 r ∧ cQ0 c9 C n t Ps Pc M M' ∧ r = mI M t 1 + (l - 20) ∧ mI M' t 1 = r ∧ xcF M M' t) := by
  obtain ⟨T, Kt, N, A, B, D, Cw, p, O, P, K, p', O', P', K', Ab, Be, Cm, U, Ag, Bg, Cg, cn, cc, bc, Ls, v, R, k, Z, hj0⟩ := h
  obtain ⟨h1, h2, h3, h4, h5, h6, h7⟩ := id hj0
  obtain ⟨⟨ta1, ta2, ta3⟩, ta4, ta5, ta6, ta9⟩ := id h2.2.1
  obtain ⟨lo1, lo2, lo3, lo4⟩ := sta2_lo h5.2.2.1.1
  obtain ⟨zc, nO, nP, zp, -⟩ := sta2_z h5 h2
  rw [ta3] at hl
  obtain ⟨N', hN, hN'⟩ : ∃ N' : Nat, ((N : Nat) : Int) + (l - 20) = ((N' : Nat) : Int) ∧ N' ≤ N := ⟨(((N : Nat) : Int) + (l - 20)).toNat, by omega, by omega⟩
  refine (s_CA_end il h1 ta1 ta3 ta6.2.1 ⟨hl.1, hl.2.1, by omega⟩).mono (fun r M' q => ?_)
  obtain ⟨q1, q2, q3⟩ := q
  have f : FI (fun x => x = t) M M' := by rw [q3]; exact FI.ui rfl
  have fc : FC (Sta2 t T) M M' := f.fc (fun _ u => Or.inl u)
  have it : ∀ i, i ≠ 1 → mI M' t i = mI M t i := fun i hi => by rw [q3, mI_UI, if_neg (fun u => hi u.2)]
  have i1 : mI M' t 1 = ((N : Nat) : Int) + (l - 20) := by rw [q3, mI_UI, if_pos ⟨rfl, rfl⟩]
  have ez : mZ M' = mZ M ∧ mS M' = mS M := ⟨f.2.2.2.2.1, f.2.2.2.2.2.1⟩
  have tap : Tap c9.1 M' t T Kt N' := by
    refine ⟨⟨by rw [f.1]; exact ta1, by rw [f.2.2.1]; exact ta2, by rw [i1]; exact hN⟩, by rw [f.1, f.2.1]; exact ta4, by rw [ez.1]; exact ta5, ⟨Nat.le_trans hN' ta6.1, Nat.le_trans hN' ta6.2.1, ta6.2.2⟩, fun j hj => ?_⟩
    rw [f.2.2.2.2.2.2 T ta5.1.symm]
    exact ta9 j (Nat.lt_of_lt_of_le hj hN')
  have tx := h2.tap q2 fc lo1 nO nP (fun i _ => by rw [f.2.2.1]) (it 6 (by decide)) tap
  obtain ⟨ns, pe, qe⟩ := h4.fc q2 fc (fun x u => (zc x u).1) lo4 lo3 zp (fun i _ => by rw [f.2.2.1]) (it 18 (by decide))
  refine ⟨by rw [q1, hN]; have := ta6.2.1; exact i32s (by clear hj0; omega) (by clear hj0; omega), ⟨C, Ps, Pc, ⟨T, Kt, N', A, B, D, Cw, p, O, P, K, p', O', P', K', Ab, Be, Cm, U, Ag, Bg, Cg, cn, cc, bc, Ls, v, R, k, Z, q2, tx, (h3.fc fc lo2).up, ns, h5.mz (by rw [ez.1]; exact Nat.le_refl _), ?_, by rw [it 6 (by decide)]; exact h7⟩, fc.mono (fun x _ u => (zc x u).2), fun x u => Or.inl u, by rw [ez.2]; exact Nat.le_refl _, by rw [ez.1]; exact Nat.le_refl _⟩, by rw [q1, ta3], by rw [i1, q1], it 7 (by decide), it 8 (by decide), fun i _ _ => f.2.2.2.2.2.2 _ (show ¬ (t + 62 + i = t) by omega), hj0.knf (by rw [f.2.2.1]) (by rw [hj0.vfc fc (fun x u => (zc x u).1)])⟩
  unfold Rmc
  rw [pe, qe]
  exact h6
/-- a tape that may be new -/
theorem Ap.tape (h : Ap Z C t T A B D O P O' P' Ab Be Ag Bg M) (hz : mZ M ≤ mZ M') (t5 : t + 236 ≤ mZ M) (e : T1 = T ∨ (mZ M ≤ T1 ∧ T1 < mZ M')) : Ap Z (Zn C M M') t T1 A B D O P O' P' Ab Be Ag Bg M' := by
  obtain ⟨c1, c2, c3⟩ := h.oc
  have nd := List.nodup_cons.1 h.2.1
  have pl := h.2.2.1
  refine h.re hz (List.nodup_cons.2 ⟨?_, nd.2⟩) ⟨by rcases e with e | e <;> omega, pl.2⟩ (fun x hx => ?_)
  · rcases e with e | e
    · rw [e]; exact nd.1
    · intro u
      have := (c3 T1 (List.mem_cons_of_mem _ u)).2
      omega
  · rcases List.mem_cons.mp hx with u | u
    · rw [u]
      rcases e with e | e
      · rw [e]; exact Or.inl (by simp)
      · exact Or.inr e
    · exact Or.inl (List.mem_cons_of_mem _ u)
/-- the room of a tape that may be new -/
theorem rmc_tape {Pn' Qn' : Nat} (h6 : Rmc Kt Cw K K' Cm Cg Ps Pc Ls k M) (pe : Pn Ls k M' = Pn Ls k M ∧ Qn Ls k M' = Qn Ls k M) (k20 : 20 ≤ Kt) (gr : (Kt' = Kt ∧ mZ M' = mZ M ∧ mS M' = mS M) ∨ (Kt' = 2 * Kt ∧ mZ M' = mZ M + 1 ∧ mS M' = mS M + 2 * Kt)) : Rmc Kt' Cw K K' Cm Cg (Ps + 2 * (Kt' - Kt)) (Pc + 4 * (Kt' - Kt)) Ls k M' ∧ mS M' + Ps ≤ mS M + (Ps + 2 * (Kt' - Kt)) ∧ 64 * mZ M' + Pc ≤ 64 * mZ M + (Pc + 4 * (Kt' - Kt)) := by
  unfold Rmc at h6 ⊢
  rw [pe.1, pe.2]
  rcases gr with g | g <;> exact ⟨⟨by omega, by omega, h6.2.2⟩, by omega, by omega⟩
theorem c_CA_feed {l1 l2 l3 l4 l5 : Int} (i1 : i32 l1) (i2 : i32 l2) (i3 : i32 l3) (i4 : i32 l4) (i5 : i32 l5) (h : CI c9 C n t Ps Pc M) : Ci G y_CA_feed (d + 2) [vr t, vi l1, vi l2, vi l3, vi l4, vi l5] M (fun r M' => i32 r ∧ ∃ c8, (cQ0 c8 C n t Ps Pc M M' ∧ xcF M M' t) ∧ ((r = -1 ∧ 16384 < mI M t 1 + 20 ∧ mI M' t 1 = mI M t 1 ∧ c8 = c9) ∨ (r = mI M t 1 + 20 ∧ mI M t 1 + 20 ≤ 16384 ∧ mI M' t 1 = r ∧ c8 = (fdc c9.1 (mI M t 1).toNat l1 l2 l3 l4 l5, c9.2)))) := by
  obtain ⟨T, Kt, N, A, B, D, Cw, p, O, P, K, p', O', P', K', Ab, Be, Cm, U, Ag, Bg, Cg, cn, cc, bc, Ls, v, R, k, Z, hj⟩ := id h
  obtain ⟨h1, h2, h3, h4, h5, h6, h7⟩ := id hj
  have tap0 := h2.2.1
  have ta3 := tap0.1.2.2
  have k20 := tap0.2.2.2.1.2.2.1
  obtain ⟨lo1, lo2, lo3, lo4⟩ := sta2_lo h5.2.2.1.1
  obtain ⟨zc, nO, nP, zp, t5⟩ := sta2_z h5 h2
  refine (s_CA_feed (d := d) i1 i2 i3 i4 i5 h1 tap0).mono (fun r M' q => ?_)
  rw [ta3]
  rcases q with ⟨q1, q2, q3⟩ | ⟨q1, q2, T', Kt', o, tap, fa, it, rt, gr⟩
  · rw [q3, ta3]
    exact ⟨by rw [q1]; exact ⟨by decide, by decide⟩, c9, ⟨h.same.1, h.same.2.2⟩, Or.inl ⟨q1, by clear hj h2 h3 h4 h5 h6; omega, rfl, rfl⟩⟩
  have fc : FC (Sta2 t T) M M' := fa.fc (fun _ u => u) (fun x u => Or.inl u)
  have tx := h2.tap o fc lo1 nO nP (fun i hi => rt i (by omega)) (it 6 (by decide)) tap
  obtain ⟨ns, pq⟩ := h4.fc o fc (fun x u => (zc x u).1) lo4 lo3 zp (fun i hi => rt i (by omega)) (it 18 (by decide))
  have Tz := tap.2.2.1.2.2
  have ap := h5.tape fc.1.1 t5 (T1 := T') (by rcases gr with g | g; exact Or.inl g.1; exact Or.inr ⟨Nat.le_of_eq g.1.symm, Tz⟩)
  obtain ⟨rm, r1, r2⟩ := rmc_tape (Pn' := 0) (Qn' := 0) h6 pq k20 (Kt' := Kt') (gr.imp (fun g => g.2) (fun g => g.2))
  exact ⟨by rw [q1]; exact i32s (by clear hj h2 h3 h4 h5 h6; omega) (by clear hj h2 h3 h4 h5 h6; omega), (fdc c9.1 N l1 l2 l3 l4 l5, c9.2), ⟨⟨Zn C M M', _, _, ⟨T', Kt', N + 20, A, B, D, Cw, p, O, P, K, p', O', P', K', Ab, Be, Cm, U, Ag, Bg, Cg, cn, cc, bc, Ls, v, R, k, Z, o, tx, (h3.fc fc lo2).up, ns, ap, rm, by rw [it 6 (by decide)]; exact h7⟩, fc.mono (fun x _ u => (zc x u).2), fun x u => u, r1, r2⟩, it 7 (by decide), it 8 (by decide), fun i hi _ => (fc.sm (by clear hj h2 h3 h4 h5 h6 ns tx; omega) (lo2 _ (by omega) (by omega))).2.2.2, hj.knf (rt 11 (by omega)) (by rw [hj.vfc fc (fun x u => (zc x u).1)])⟩, Or.inr ⟨by rw [q1]; clear hj h2 h3 h4 h5 h6; omega, by clear hj h2 h3 h4 h5 h6; omega, by rw [tap.1.2.2, q1], by rw [Int.toNat_natCast]⟩⟩
end NCW
