section
/-! The class at rest: cells that are made anew; end. -/
section NCW
variable {G : mG} {d t x n cn cc bc T Kt N A B D Cw p O P K p' O' P' K' Ab Be Cm U Ag Bg Cg Ps Pc T1 A1 B1 D1 O1 P1 O2 P2 Ab1 Be1 Ag1 Bg1 Kt' N' : Nat} {M M' M1 : mM} {Z Y C : Nat → Prop} {v R k : Nat → Nat} {Ls : List Nat} {c9 c8 : tG9}
theorem Ap.nz (h : Ap Z C t T A B D O P O' P' Ab Be Ag Bg M) : (∀ x, t ≤ x → x < t + 85 → ¬ Z x) ∧ ¬ Z (t + 234) ∧ (¬ Z T ∧ ¬ Z O ∧ ¬ Z P) := ⟨fun x a b => h.1 x (Or.inl ⟨a, b⟩), h.1 _ (Or.inr (Or.inl rfl)), h.1 _ (Or.inr (Or.inr (by simp))), h.1 _ (Or.inr (Or.inr (by simp))), h.1 _ (Or.inr (Or.inr (by simp)))⟩
theorem Ap.oc (h : Ap Z C t T A B D O P O' P' Ab Be Ag Bg M) : (∀ x, t ≤ x → x < t + 235 → C x ∧ x < mZ M) ∧ (∀ x, Z x → C x ∧ x < mZ M) ∧ (∀ x, x ∈ [T, A, B, D, O, P, O', P', Ab, Be, Ag, Bg] → C x ∧ x < mZ M) := by
  obtain ⟨-, -, -, h4, h5⟩ := h
  exact ⟨fun x a b => ⟨h4 x (Or.inl ⟨a, b⟩), h5 x (h4 x (Or.inl ⟨a, b⟩))⟩, fun x a => ⟨h4 x (Or.inr (Or.inl a)), h5 x (h4 x (Or.inr (Or.inl a)))⟩, fun x a => ⟨h4 x (Or.inr (Or.inr a)), h5 x (h4 x (Or.inr (Or.inr a)))⟩⟩
/-- the same cells, later -/
theorem Ap.mz (h : Ap Z C t T A B D O P O' P' Ab Be Ag Bg M) (hz : mZ M ≤ mZ M') : Ap Z C t T A B D O P O' P' Ab Be Ag Bg M' := ⟨h.1, h.2.1, h.2.2.1, h.2.2.2.1, fun x u => Nat.lt_of_lt_of_le (h.2.2.2.2 x u) hz⟩
/-- arrays have been made anew -/
theorem Ap.re (h : Ap Z C t T A B D O P O' P' Ab Be Ag Bg M) (hz : mZ M ≤ mZ M') (nd : [T1, A1, B1, D1, O1, P1, O2, P2, Ab1, Be1, Ag1, Bg1].Nodup) (pl : (T1 = t + 1 ∨ t + 235 ≤ T1) ∧ (A1 = t + 4 ∨ t + 235 ≤ A1) ∧ (B1 = t + 5 ∨ t + 235 ≤ B1) ∧ (D1 = t + 6 ∨ t + 235 ≤ D1)) (old : ∀ x, x ∈ [T1, A1, B1, D1, O1, P1, O2, P2, Ab1, Be1, Ag1, Bg1] → x ∈ [T, A, B, D, O, P, O', P', Ab, Be, Ag, Bg] ∨ (mZ M ≤ x ∧ x < mZ M')) : Ap Z (Zn C M M') t T1 A1 B1 D1 O1 P1 O2 P2 Ab1 Be1 Ag1 Bg1 M' := by
  obtain ⟨c1, c2, c3⟩ := h.oc
  obtain ⟨h1, -, -, h4, h5⟩ := h
  refine ⟨fun x hx => ?_, nd, pl, fun x hx => ?_, fun x hx => ?_⟩
  · rcases hx with u | u | u
    · exact h1 x (Or.inl u)
    · exact h1 x (Or.inr (Or.inl u))
    · rcases old x u with w | w
      · exact h1 x (Or.inr (Or.inr w))
      · intro zx
        have := (c2 x zx).2
        omega
  · rcases hx with u | u | u
    · exact Or.inl (c1 x u.1 u.2).1
    · exact Or.inl (c2 x u).1
    · rcases old x u with w | w
      · exact Or.inl (c3 x w).1
      · exact Or.inr w
  · rcases hx with u | u
    · have := h5 x u; omega
    · exact u.2
/-- numbers have been made -/
theorem Ap.zn (h : Ap Z C t T A B D O P O' P' Ab Be Ag Bg M) (hz : mZ M ≤ mZ M') : Ap (Zn Z M M') (Zn C M M') t T A B D O P O' P' Ab Be Ag Bg M' := by
  obtain ⟨c1, c2, c3⟩ := h.oc
  obtain ⟨h1, h2, h3, h4, h5⟩ := h
  refine ⟨fun x hx u => ?_, h2, h3, fun x hx => ?_, fun x hx => ?_⟩
  · have lt : x < mZ M := by
      rcases hx with w | w | w
      · exact (c1 x w.1 (by omega)).2
      · exact (c1 x (by omega) (by omega)).2
      · exact (c3 x w).2
    rcases u with u | u
    · exact h1 x hx u
    · omega
  · rcases hx with u | (u | u) | u
    · exact Or.inl (c1 x u.1 u.2).1
    · exact Or.inl (c2 x u).1
    · exact Or.inr u
    · exact Or.inl (c3 x u).1
  · rcases hx with u | u
    · have := h5 x u; omega
    · exact u.2
/-- the text's side with another tape -/
theorem Tx.tap {c7 : Nat → Int} (h : Tx c9 t T Kt N A B D Cw p O P K p' O' P' K' Ab Be Cm M) (o : mOk M') (f : FC Y M M') (hz : ∀ x, t + 2 ≤ x → x < t + 62 → ¬ Y x) (nO : ¬ Y O) (nP : ¬ Y P) (hr : ∀ i, 2 ≤ i → mR M' t i = mR M t i) (i6 : mI M' t 6 = mI M t 6) (tap : Tap c7 M' t T1 Kt' N') : Tx (c7, c9.2) t T1 Kt' N' A B D Cw p O P K p' O' P' K' Ab Be Cm M' := by
  obtain ⟨h1, h2, h3, h4, h5, h6, h7, h8⟩ := h
  refine ⟨by rw [hr 2 (by decide), hr 3 (by decide), hr 4 (by decide), hr 5 (by decide)]; exact h1, tap, h3.fc f (hz _ (by omega) (by omega)), h4.fc o f (fun x a b => hz x (by omega) (by omega)) (hz _ (by omega) (by omega)), h5.fc f (hz _ (by omega) (by omega)), h6, fun u => ?_, h8.fc f h5 i6 (fun i hi => hz _ (by omega) (by omega)) nO nP⟩
  rw [i6] at u
  obtain ⟨V, F, ns, sf, ef, L, cnt, hw⟩ := h7 u
  exact ⟨V, F, ns, sf, ef, L, cnt, hw.fc f (fun i hi => hz _ (by omega) (by omega)) nO nP⟩
theorem sta2_lo (pT : T = t + 1 ∨ t + 235 ≤ T) : (∀ x, t + 2 ≤ x → x < t + 62 → ¬ Sta2 t T x) ∧ (∀ x, t + 62 ≤ x → x < t + 85 → ¬ Sta2 t T x) ∧ ¬ Sta2 t T (t + 234) ∧ (∀ i, i ≤ 9 → ¬ Sta2 t T (t + 62 + i)) := by
  unfold Sta2
  exact ⟨fun x a b u => by omega, fun x a b u => by omega, fun u => by omega, fun i a u => by omega⟩
/-- what is outside the numbers -/
theorem sta2_z (h : Ap Z C t T A B D O P O' P' Ab Be Ag Bg M) (hx : Tx c9 t T Kt N A B D Cw p O P K p' O' P' K' Ab Be Cm M) : (∀ x, Sta2 t T x → ¬ Z x ∧ C x) ∧ ¬ Sta2 t T O ∧ ¬ Sta2 t T P ∧ t + 234 < mZ M ∧ t + 235 ≤ mZ M := by
  obtain ⟨z1, z2, z3, z4, z5⟩ := h.nz
  obtain ⟨c1, c2, c3⟩ := h.oc
  have tn := (List.nodup_cons.1 h.2.1).1
  have o4 := hx.2.2.2.2.1.2.2.2.1
  have pp := hx.2.2.2.2.2.1
  clear hx
  refine ⟨fun x u => ?_, fun u => ?_, fun u => ?_, (c1 _ (by omega) (by omega)).2, (c1 (t + 234) (by omega) (by omega)).2⟩
  · rcases u with u | u
    · rw [u]; exact ⟨z1 t (by omega) (by omega), (c1 t (by omega) (by omega)).1⟩
    · rw [u]; exact ⟨z3, (c3 T (by simp)).1⟩
  · rcases u with u | u
    · omega
    · exact tn (by rw [← u]; simp)
  · rcases u with u | u
    · omega
    · exact tn (by rw [← u]; simp)
theorem c_CA_end {l : Int} (il : i32 l) (h : CI c9 C n t Ps Pc M) (hl : 0 ≤ l ∧ l ≤ 20 ∧ 20 ≤ mI M t 1) : Ci G y_CA_end d [vr t, vi l] M (fun r M' => i32 r ∧ cQ0 c9 C n t Ps Pc M M' ∧ r = mI M t 1 + (l - 20) ∧ mI M' t 1 = r ∧ xcF M M' t) := by
  obtain ⟨T, Kt, N, A, B, D, Cw, p, O, P, K, p', O', P', K', Ab, Be, Cm, U, Ag, Bg, Cg, cn, cc, bc, Ls, v, R, k, Z, hj0⟩ := h
  obtain ⟨h1, h2, h3, h4, h5, h6, h7⟩ := id hj0
  obtain ⟨⟨ta1, ta2, ta3⟩, ta4, ta5, ta6, ta9⟩ := id h2.2.1
  obtain ⟨lo1, lo2, lo3, lo4⟩ := sta2_lo h5.2.2.1.1
  obtain ⟨zc, nO, nP, zp, -⟩ := sta2_z h5 h2
  rw [ta3] at hl
  obtain ⟨N', hN, hN'⟩ : ∃ N' : Nat, ((N : Nat) : Int) + (l - 20) = ((N' : Nat) : Int) ∧ N' ≤ N := ⟨(((N : Nat) : Int) + (l - 20)).toNat, by omega, by omega⟩
  refine (s_CA_end il h1 ta1 ta3 ta6.2.1 ⟨hl.1, hl.2.1, by omega⟩).mono (fun r M' q => ?_)
  obtain ⟨q1, q2, q3⟩ := q
  have f : FI (fun x => x = t) M M' := by rw [q3]; exact FI.ui rfl
  have fc : FC (Sta2 t T) M M' := f.fc (fun _ u => Or.inl u)
  have it : ∀ i, i ≠ 1 → mI M' t i = mI M t i := fun i hi => by rw [q3, mI_UI, if_neg (fun u => hi u.2)]
  have i1 : mI M' t 1 = ((N : Nat) : Int) + (l - 20) := by rw [q3, mI_UI, if_pos ⟨rfl, rfl⟩]
  have ez : mZ M' = mZ M ∧ mS M' = mS M := ⟨f.2.2.2.2.1, f.2.2.2.2.2.1⟩
  have tap : Tap c9.1 M' t T Kt N' := by
    refine ⟨⟨by rw [f.1]; exact ta1, by rw [f.2.2.1]; exact ta2, by rw [i1]; exact hN⟩, by rw [f.1, f.2.1]; exact ta4, by rw [ez.1]; exact ta5, ⟨Nat.le_trans hN' ta6.1, Nat.le_trans hN' ta6.2.1, ta6.2.2⟩, fun j hj => ?_⟩
    rw [f.2.2.2.2.2.2 T ta5.1.symm]
    exact ta9 j (Nat.lt_of_lt_of_le hj hN')
  have tx := h2.tap q2 fc lo1 nO nP (fun i _ => by rw [f.2.2.1]) (it 6 (by decide)) tap
  obtain ⟨ns, pe, qe⟩ := h4.fc q2 fc (fun x u => (zc x u).1) lo4 lo3 zp (fun i _ => by rw [f.2.2.1]) (it 18 (by decide))
  refine ⟨by rw [q1, hN]; have := ta6.2.1; exact i32s (by clear hj0; omega) (by clear hj0; omega), ⟨C, Ps, Pc, ⟨T, Kt, N', A, B, D, Cw, p, O, P, K, p', O', P', K', Ab, Be, Cm, U, Ag, Bg, Cg, cn, cc, bc, Ls, v, R, k, Z, q2, tx, (h3.fc fc lo2).up, ns, h5.mz (by rw [ez.1]; exact Nat.le_refl _), ?_, by rw [it 6 (by decide)]; exact h7⟩, fc.mono (fun x _ u => (zc x u).2), fun x u => Or.inl u, by rw [ez.2]; exact Nat.le_refl _, by rw [ez.1]; exact Nat.le_refl _⟩, by rw [q1, ta3], by rw [i1, q1], it 7 (by decide), it 8 (by decide), fun i _ _ => f.2.2.2.2.2.2 _ (show ¬ (t + 62 + i = t) by omega), hj0.knf (by rw [f.2.2.1]) (by rw [hj0.vfc fc (fun x u => (zc x u).1)])⟩
  unfold Rmc
  rw [pe, qe]
  exact h6
/-- a tape that may be new -/
theorem Ap.tape (h : Ap Z C t T A B D O P O' P' Ab Be Ag Bg M) (hz : mZ M ≤ mZ M') (t5 : t + 235 ≤ mZ M) (e : T1 = T ∨ (mZ M ≤ T1 ∧ T1 < mZ M')) : Ap Z (Zn C M M') t T1 A B D O P O' P' Ab Be Ag Bg M' := by
  obtain ⟨c1, c2, c3⟩ := h.oc
  have nd := List.nodup_cons.1 h.2.1
  have pl := h.2.2.1
  refine h.re hz (List.nodup_cons.2 ⟨?_, nd.2⟩) ⟨by rcases e with e | e <;> omega, pl.2⟩ (fun x hx => ?_)
  · rcases e with e | e
    · rw [e]; exact nd.1
    · intro u
      have := (c3 T1 (List.mem_cons_of_mem _ u)).2
      omega
  · rcases List.mem_cons.mp hx with u | u
    · rw [u]
      rcases e with e | e
      · rw [e]; exact Or.inl (by simp)
      · exact Or.inr e
    · exact Or.inl (List.mem_cons_of_mem _ u)
/-- the room of a tape that may be new -/
theorem rmc_tape {Pn' Qn' : Nat} (h6 : Rmc Kt Cw K K' Cm Cg Ps Pc Ls k M) (pe : Pn Ls k M' = Pn Ls k M ∧ Qn Ls k M' = Qn Ls k M) (k20 : 20 ≤ Kt) (gr : (Kt' = Kt ∧ mZ M' = mZ M ∧ mS M' = mS M) ∨ (Kt' = 2 * Kt ∧ mZ M' = mZ M + 1 ∧ mS M' = mS M + 2 * Kt)) : Rmc Kt' Cw K K' Cm Cg (Ps + 2 * (Kt' - Kt)) (Pc + 4 * (Kt' - Kt)) Ls k M' ∧ mS M' + Ps ≤ mS M + (Ps + 2 * (Kt' - Kt)) ∧ 64 * mZ M' + Pc ≤ 64 * mZ M + (Pc + 4 * (Kt' - Kt)) := by
  unfold Rmc at h6 ⊢
  rw [pe.1, pe.2]
  rcases gr with g | g <;> exact ⟨⟨by omega, by omega, h6.2.2⟩, by omega, by omega⟩
theorem c_CA_feed {l1 l2 l3 l4 l5 : Int} (i1 : i32 l1) (i2 : i32 l2) (i3 : i32 l3) (i4 : i32 l4) (i5 : i32 l5) (h : CI c9 C n t Ps Pc M) : Ci G y_CA_feed (d + 2) [vr t, vi l1, vi l2, vi l3, vi l4, vi l5] M (fun r M' => i32 r ∧ ∃ c8, (cQ0 c8 C n t Ps Pc M M' ∧ xcF M M' t) ∧ ((r = -1 ∧ 16384 < mI M t 1 + 20 ∧ mI M' t 1 = mI M t 1 ∧ c8 = c9) ∨ (r = mI M t 1 + 20 ∧ mI M t 1 + 20 ≤ 16384 ∧ mI M' t 1 = r ∧ c8 = (fdc c9.1 (mI M t 1).toNat l1 l2 l3 l4 l5, c9.2)))) := by
  obtain ⟨T, Kt, N, A, B, D, Cw, p, O, P, K, p', O', P', K', Ab, Be, Cm, U, Ag, Bg, Cg, cn, cc, bc, Ls, v, R, k, Z, hj⟩ := id h
  obtain ⟨h1, h2, h3, h4, h5, h6, h7⟩ := id hj
  have tap0 := h2.2.1
  have ta3 := tap0.1.2.2
  have k20 := tap0.2.2.2.1.2.2.1
  obtain ⟨lo1, lo2, lo3, lo4⟩ := sta2_lo h5.2.2.1.1
  obtain ⟨zc, nO, nP, zp, t5⟩ := sta2_z h5 h2
  refine (s_CA_feed (d := d) i1 i2 i3 i4 i5 h1 tap0).mono (fun r M' q => ?_)
  rw [ta3]
  rcases q with ⟨q1, q2, q3⟩ | ⟨q1, q2, T', Kt', o, tap, fa, it, rt, gr⟩
  · rw [q3, ta3]
    exact ⟨by rw [q1]; exact ⟨by decide, by decide⟩, c9, ⟨h.same.1, h.same.2.2⟩, Or.inl ⟨q1, by clear hj h2 h3 h4 h5 h6; omega, rfl, rfl⟩⟩
  have fc : FC (Sta2 t T) M M' := fa.fc (fun _ u => u) (fun x u => Or.inl u)
  have tx := h2.tap o fc lo1 nO nP (fun i hi => rt i (by omega)) (it 6 (by decide)) tap
  obtain ⟨ns, pq⟩ := h4.fc o fc (fun x u => (zc x u).1) lo4 lo3 zp (fun i hi => rt i (by omega)) (it 18 (by decide))
  have Tz := tap.2.2.1.2.2
  have ap := h5.tape fc.1.1 t5 (T1 := T') (by rcases gr with g | g; exact Or.inl g.1; exact Or.inr ⟨Nat.le_of_eq g.1.symm, Tz⟩)
  obtain ⟨rm, r1, r2⟩ := rmc_tape (Pn' := 0) (Qn' := 0) h6 pq k20 (Kt' := Kt') (gr.imp (fun g => g.2) (fun g => g.2))
  exact ⟨by rw [q1]; exact i32s (by clear hj h2 h3 h4 h5 h6; omega) (by clear hj h2 h3 h4 h5 h6; omega), (fdc c9.1 N l1 l2 l3 l4 l5, c9.2), ⟨⟨Zn C M M', _, _, ⟨T', Kt', N + 20, A, B, D, Cw, p, O, P, K, p', O', P', K', Ab, Be, Cm, U, Ag, Bg, Cg, cn, cc, bc, Ls, v, R, k, Z, o, tx, (h3.fc fc lo2).up, ns, ap, rm, by rw [it 6 (by decide)]; exact h7⟩, fc.mono (fun x _ u => (zc x u).2), fun x u => u, r1, r2⟩, it 7 (by decide), it 8 (by decide), fun i hi _ => (fc.sm (by clear hj h2 h3 h4 h5 h6 ns tx; omega) (lo2 _ (by omega) (by omega))).2.2.2, hj.knf (rt 11 (by omega)) (by rw [hj.vfc fc (fun x u => (zc x u).1)])⟩, Or.inr ⟨by rw [q1]; clear hj h2 h3 h4 h5 h6; omega, by clear hj h2 h3 h4 h5 h6; omega, by rw [tap.1.2.2, q1], by rw [Int.toNat_natCast]⟩⟩
end NCW
end
section
/-! The class at rest: steps of its numbers. -/
section NCX
variable {G : mG} {d t x n g s b cn cc bc T Kt N A B D Cw p O P K p' O' P' K' Ab Be Cm U Ag Bg Cg Ps Pc : Nat} {M M' M1 : mM} {Z Y C Tn Cm' : Nat → Prop} {v v' R k Rn kn : Nat → Nat} {Ls L L' : List Nat} {W : Nat → Nat} {r : Prop} {c9 c8 : tG9}
theorem stb_ne (h : Stb s x) : x ≠ s + 1 := by unfold Stb at h; omega
theorem gi_ne {i : Nat} (h : g + 22 < s) (hi : i ≤ 9) : g + i ≠ s + 1 := by omega
theorem re_ne {i : Nat} : s + 31 + i ≠ s + 1 := by omega
/-- the Solver under a step of numbers -/
theorem Sb.nx (h : Sb L W s g cn cc bc M) (q : NX L W Tn Cm' False (s + 1) M M') (hg : ∀ i, i ≤ 9 → ¬ Cm' (g + i)) : Sb L W s g cn cc bc M' := by
  obtain ⟨⟨o, ⟨⟨a1, a2⟩, a3, a4, a5⟩, ⟨b1, b2, b3, b4⟩, ⟨b5, b6⟩, gt⟩, ⟨hF, hSK, ⟨⟨c0, c1, c2, c3⟩, c4, c5, c6⟩, hf⟩, hSt, hgo⟩ := h
  have st : ∀ x, Stb s x → mK M' x = mK M x ∧ mN M' x = mN M x ∧ mR M' x = mR M x := fun x hx => by
    have := q.oth (hSt x hx) (stb_ne hx)
    exact ⟨this.1, this.2.1, this.2.2.1⟩
  have go : ∀ i, i ≤ 9 → mK M' (g + i) = mK M (g + i) ∧ mN M' (g + i) = mN M (g + i) ∧ mR M' (g + i) = mR M (g + i) ∧ mI M' (g + i) = mI M (g + i) := fun i hi => by
    have := q.oth (hgo i hi) (gi_ne a2 hi)
    exact ⟨this.1, this.2.1, this.2.2.1, this.2.2.2 (hg i hi)⟩
  have re : ∀ i, i ≤ 6 → mK M' (s + 31 + i) = mK M (s + 31 + i) ∧ mN M' (s + 31 + i) = mN M (s + 31 + i) ∧ mR M' (s + 31 + i) = mR M (s + 31 + i) := fun i hi => by
    have := q.oth (c4 i hi) re_ne
    exact ⟨this.1, this.2.1, this.2.2.1⟩
  have e0 := st s (Or.inl rfl)
  have e29 := st (s + 29) (Or.inr (Or.inl rfl))
  have e30 := st (s + 30) (Or.inr (Or.inr (Or.inl rfl)))
  have e122 := st (s + 122) (Or.inr (Or.inr (Or.inr (Or.inl rfl))))
  have e123 := st (s + 123) (Or.inr (Or.inr (Or.inr (Or.inr (Or.inl rfl)))))
  have e124 := st (s + 124) (Or.inr (Or.inr (Or.inr (Or.inr (Or.inr (Or.inl rfl))))))
  have e125 := st (s + 125) (Or.inr (Or.inr (Or.inr (Or.inr (Or.inr (Or.inr (Or.inl rfl)))))))
  have e126 := st (s + 126) (Or.inr (Or.inr (Or.inr (Or.inr (Or.inr (Or.inr (Or.inr (Or.inl rfl))))))))
  have e127 := st (s + 127) (Or.inr (Or.inr (Or.inr (Or.inr (Or.inr (Or.inr (Or.inr (Or.inr (Or.inl rfl)))))))))
  have e128 := st (s + 128) (Or.inr (Or.inr (Or.inr (Or.inr (Or.inr (Or.inr (Or.inr (Or.inr (Or.inr rfl)))))))))
  have g0 := go 0 (by decide)
  rw [Nat.add_zero] at g0
  have r0 := re 0 (by decide)
  rw [Nat.add_zero] at r0
  have r1 := re 1 (by decide)
  have r2 := re 2 (by decide)
  have r3 := re 3 (by decide)
  have r4 := re 4 (by decide)
  have r5 := re 5 (by decide)
  have r6 := re 6 (by decide)
  refine ⟨⟨q.ok, ⟨⟨by rw [e0.1]; exact a1, a2⟩, by rw [e0.2.2]; exact a3, by rw [e29.1, e30.1, e122.1, e123.1, e124.1, e125.1, e126.1, e127.1, e128.1]; exact a4, by rw [e29.2.1, e30.2.1, e122.2.1, e123.2.1, e124.2.1, e125.2.1, e126.2.1, e127.2.1, e128.2.1]; exact a5⟩, ⟨by rw [g0.1]; exact b1, by rw [g0.2.2.1]; exact b2, fun i i1 i2 => by rw [(go i i2).1]; exact b3 i i1 i2, by rw [(go 2 (by decide)).2.1, (go 4 (by decide)).2.1, (go 6 (by decide)).2.1, (go 7 (by decide)).2.1, (go 8 (by decide)).2.1, (go 9 (by decide)).2.1]; exact b4⟩, ⟨by rw [g0.2.2.1]; exact b5, by rw [(go 3 (by decide)).2.1]; exact b6⟩, gt.same (fun i hi => (go i hi).2.2.2)⟩, ⟨q.nf, q.sk hF hSK, ⟨⟨by rw [r0.1]; exact c0, by rw [r0.2.2]; exact c1, by rw [r1.1, r2.1, r3.1, r4.1, r5.1, r6.1]; exact c2, by rw [r1.2.1, r2.2.1, r3.2.1, r4.2.1, r5.2.1, r6.2.1]; exact c3⟩, fun i hi => q.oc hF (c4 i hi), fun i hi => by rw [r2.2.2]; exact c5 i hi, c6⟩, (q.frl hF hf).1⟩, fun x hx => q.oc hF (hSt x hx), fun i hi => q.oc hF (hgo i hi)⟩
/-- a step of numbers that touches no table -/
theorem Nms.nxg (h : Nms L W s g b cn cc bc v R k M) (q : NX L W Tn Cm' False (s + 1) M M') (hT : ∀ x, Tn x → x < b) (hC : ∀ x, Cm' x → x < b) (hv : ∀ j, j < 4 → ¬ Cm' (v j)) (hg : ∀ i, i ≤ 9 → ¬ Cm' (g + i)) : Nms L W s g b cn cc bc v R k M' ∧ ∀ j, j < 4 → mI M' (v j) = mI M (v j) := by
  obtain ⟨sb, tb, ⟨b1, b2⟩, tk⟩ := h
  have hF := sb.2.1.1
  refine ⟨⟨sb.nx q hg, tb.nx q hF, ⟨b1, Nat.le_trans b2 q.2.2.1.1.1⟩, fun j hj j2 => (tk j hj j2).nx (tb.1 j hj) q hF (hv j hj) (fun l hl => ?_)⟩, fun j hj => (q.oth (tb.1 j hj).1.2.2.2.2.1.1 (by have := (tb.1 j hj).2.2.2.2.1; omega)).2.2.2 (hv j hj)⟩
  have bl := (tb.1 j hj).2.1 l hl
  exact ⟨fun u => by have := hT _ u; omega, fun u => by have := hT _ u; omega, fun u => by have := hC _ u; omega⟩
theorem NX.cnu (q : NX L W Tn Cm' r (s + 1) M M') (hF : NF L W M) (hc : Cnu Z L s v R k M) (tb : Tb0 L M s b v R k) : Cnu (Zn Z M M') L s v R k M' ∧ FC (fun x => Z x ∨ Cm' x) M M' := by
  have hc' : Cnu (fun x => Z x ∨ Cm' x) L s v R k M := hc.cg (fun x u => Or.inl u)
  refine ⟨?_, (q.fc hF hc' tb (fun x u => Or.inr u)).1⟩
  obtain ⟨c1, c2, c3⟩ := hc
  refine ⟨fun x a1 a2 => Or.inl (c1 x a1 a2), fun a ha => ⟨Or.inl (c2 a ha).1, ?_⟩, fun i hi => ⟨Or.inl (c3 i hi).1, Or.inl (c3 i hi).2.1, fun j hj => ?_⟩⟩
  · by_cases c : Tn a
    · rcases q.2.2.2.1 a c with e | e
      · rw [e]; exact Or.inl (c2 a ha).2
      · exact Or.inr ⟨e, (q.nf.lt ha).2⟩
    · rw [(q.num hF ha c).1]; exact Or.inl (c2 a ha).2
  · rw [((tb.1 i hi).nx q hF).2]; exact Or.inl ((c3 i hi).2.2 j hj)
/-- the cells that a call about numbers may change -/
def Yn (Z : Nat → Prop) (t x : Nat) : Prop := Z x ∨ x = t ∨ x = t + 234
theorem yn_lo (h : Ap Z C t T A B D O P O' P' Ab Be Ag Bg M) (hx : Tx c9 t T Kt N A B D Cw p O P K p' O' P' K' Ab Be Cm M) : (∀ x, t + 2 ≤ x → x < t + 62 → ¬ Yn Z t x) ∧ (∀ x, t + 62 ≤ x → x < t + 85 → ¬ Yn Z t x) ∧ (¬ Yn Z t T ∧ ¬ Yn Z t O ∧ ¬ Yn Z t P) ∧ ∀ x, Yn Z t x → C x := by
  obtain ⟨z1, z2, z3, z4, z5⟩ := h.nz
  obtain ⟨c1, c2, c3⟩ := h.oc
  have o4 := hx.2.2.2.2.1.2.2.2.1
  have pp := hx.2.2.2.2.2.1
  have pT := h.2.2.1.1
  clear hx
  have nn : ∀ x, ¬ Z x → x ≠ t → x ≠ t + 234 → ¬ Yn Z t x := fun x a b c u => u.elim a (fun u => u.elim b c)
  refine ⟨fun x a b => nn x (z1 x (by omega) (by omega)) (by omega) (by omega), fun x a b => nn x (z1 x (by omega) (by omega)) (by omega) (by omega), ⟨nn T z3 (by omega) (by omega), nn O z4 (by omega) (by omega), nn P z5 (by omega) (by omega)⟩, fun x u => ?_⟩
  rcases u with u | u | u
  · exact (c2 x u).1
  · rw [u]; exact (c1 t (by omega) (by omega)).1
  · rw [u]; exact (c1 _ (by omega) (by omega)).1
/-- a step of numbers, in the class -/
theorem CJ.num (hj : CJ c9 C n t Ps Pc T Kt N A B D Cw p O P K p' O' P' K' Ab Be Cm U Ag Bg Cg cn cc bc Ls v R k Z M) (o : mOk M') (f : FC (Yn Z t) M M') (hr : ∀ i, i ≤ 5 → mR M' t i = mR M t i) (i1 : mI M' t 1 = mI M t 1) (i6 : mI M' t 6 = mI M t 6) (i7 : mI M' t 7 = mI M t 7) (i8 : mI M' t 8 = mI M t 8) (ns : Ns (Zn Z M M') t L' v' Rn kn cn cc bc M') (rq : Rq Ls k M L' kn M') : cQ0 c9 C n t Ps Pc M M' ∧ sE0 M M' t := by
  obtain ⟨h1, h2, h3, h4, h5, h6, h7⟩ := hj
  obtain ⟨y1, y2, ⟨y3, y4, y5⟩, y6⟩ := yn_lo h5 h2
  have tx := h2.fc o f y1 y3 y4 y5 hr i1 i6
  refine ⟨⟨Zn C M M', Ps + Pn L' kn M' - Pn Ls k M, Pc + 64 * Qn L' kn M' - 64 * Qn Ls k M, ⟨T, Kt, N, A, B, D, Cw, p, O, P, K, p', O', P', K', Ab, Be, Cm, U, Ag, Bg, Cg, cn, cc, bc, L', v', Rn, kn, Zn Z M M', o, tx, (h3.fc f y2).up, ns, h5.zn f.1.1, ?_, by rw [i6]; exact h7⟩, f.mono (fun x _ u => y6 x u), fun x u => u, ?_, ?_⟩, i1, i7, i8, fun i hi _ => (f.sm (by have := h3.2.1.2.2.2.2.2.2.1.1; clear h2 h4 h5 h6 tx ns; omega) (y2 _ (by omega) (by omega))).2.2.2⟩
  · clear tx ns h2 h3 h4 h5 f
    obtain ⟨r1, r2, r3, -⟩ := rq
    unfold Rmc at h6 ⊢
    exact ⟨by omega, by omega, by omega⟩
  · clear tx ns h2 h3 h4 h5 f
    obtain ⟨r1, r2, r3, -⟩ := rq
    unfold Rmc at h6
    omega
  · clear tx ns h2 h3 h4 h5 f
    obtain ⟨r1, r2, r3, -⟩ := rq
    unfold Rmc at h6
    omega
/-- the numbers' side after a step that leaves the top and what is printed -/
theorem Ns.step (h : Ns Z t Ls v R k cn cc bc M) (nz : ¬ Z t ∧ ¬ Z (t + 234)) (zp : t + 234 < mZ M) (f : FC Z M M') (nm : Nms L' (Wt t) (t + 85) (t + 62) (t + 235) cn cc bc v Rn kn M') (cn' : Cnu (Zn Z M M') L' (t + 85) v Rn kn M') (f2 : mI M' (v 2) 1 = 0) (ch : mI M' (v 0) 1 ≠ 0 → Chs M' (t + 85) (t + 62) cn) (rq : Rq Ls k M L' kn M') : Ns (Zn Z M M') t L' v Rn kn cn cc bc M' := by
  obtain ⟨h1, h2, h3, h4, h5, ⟨h6, h6', h6z⟩, h7, h8⟩ := h
  obtain ⟨tr, ti⟩ := h3.fc f nz.1
  have sp := f.sm zp nz.2
  exact ⟨nm, cn', tr, f2, ch, ⟨rq.2.2.2.1 _ h6, rq.2.2.2.2 _ h6', Or.inl h6z⟩, by unfold Pch; rw [sp.1, sp.2.1, sp.2.2.2]; exact h7, by rw [ti]; exact h8⟩
theorem FC.yn (f : FC Z M M') : FC (Yn Z t) M M' := f.mono (fun x _ u => Or.inl u)
end NCX
end
section
/-! The class at rest: solve, judge, check, within, compare, billionths, print. -/
section NCY
variable {G : mG} {d t x n cn cc bc T Kt N A B D Cw p O P K p' O' P' K' Ab Be Cm U Ag Bg Cg Ps Pc : Nat} {M M' M1 : mM} {Z Y C : Nat → Prop} {v v' R k Rn kn : Nat → Nat} {Ls L L' : List Nat} {c9 c8 : tG9}
/-- cells of the top that are no numbers -/
theorem CJ.top (hj : CJ c9 C n t Ps Pc T Kt N A B D Cw p O P K p' O' P' K' Ab Be Cm U Ag Bg Cg cn cc bc Ls v R k Z M) : (¬ Z t ∧ ¬ Z (t + 234)) ∧ (t < mZ M ∧ t + 234 < mZ M) ∧ mI M (t + 62) 0 = ((cn : Nat) : Int) := by
  obtain ⟨z1, z2, -⟩ := hj.2.2.2.2.1.nz
  obtain ⟨c1, -⟩ := hj.2.2.2.2.1.oc
  exact ⟨⟨z1 t (by omega) (by omega), z2⟩, ⟨(c1 t (by omega) (by omega)).2, (c1 _ (by omega) (by omega)).2⟩, hj.tg.2.2.2.cnt.1⟩
theorem CJ.go0 (hj : CJ c9 C n t Ps Pc T Kt N A B D Cw p O P K p' O' P' K' Ab Be Cm U Ag Bg Cg cn cc bc Ls v R k Z M) (N1 : Nms L' (Wt t) (t + 85) (t + 62) (t + 235) cn cc bc v Rn kn M') (P1 : Sp Z (t + 85) v M M' L' Rn kn) (Q1 : Rq Ls k M L' kn M') (f2 : mI M' (v 2) = mI M (v 2)) (ch : mI M' (v 0) 1 ≠ 0 → Chs M' (t + 85) (t + 62) cn) : (cQ0 c9 C n t Ps Pc M M' ∧ sE0 M M' t) ∧ mR M' t = mR M t := by
  obtain ⟨⟨z1, z2⟩, ⟨l1, l2⟩, -⟩ := hj.top
  have jn := hj.2.2.2.1
  obtain ⟨-, e1, e2⟩ := (P1.1.2 t l1).2.2 z1
  exact ⟨hj.num N1.cnt.2.2.2 P1.1.yn (fun i _ => by rw [e1]) (by rw [e2]) (by rw [e2]) (by rw [e2]) (by rw [e2]) (jn.step ⟨z1, z2⟩ l2 P1.1 N1 P1.2 (by rw [f2]; exact jn.2.2.2.1) ch Q1) Q1, e1⟩
theorem CJ.go (hj : CJ c9 C n t Ps Pc T Kt N A B D Cw p O P K p' O' P' K' Ab Be Cm U Ag Bg Cg cn cc bc Ls v R k Z M) (N1 : Nms L' (Wt t) (t + 85) (t + 62) (t + 235) cn cc bc v Rn kn M') (P1 : Sp Z (t + 85) v M M' L' Rn kn) (Q1 : Rq Ls k M L' kn M') (f2 : mI M' (v 2) = mI M (v 2)) (ch : mI M' (v 0) 1 ≠ 0 → Chs M' (t + 85) (t + 62) cn) (kv : mI M' (v 0) 1 = mI M (v 0) 1) : cQ c9 C n t Ps Pc M M' := by
  obtain ⟨⟨a1, a2⟩, a3⟩ := hj.go0 N1 P1 Q1 f2 ch
  exact ⟨a1, a2.kn (hj.knf (by rw [a3]) kv)⟩
theorem c_CA_solve (h : CI c9 C n t Ps Pc M) (c0 : mI M (t + 62) 0 ≠ 0) : Ci G y_CA_solve (d + 9) [vr t] M (fun r M' => i32 r ∧ (cQ0 c9 C n t Ps Pc M M' ∧ sE0 M M' t ∧ mI M' (mR M' t 11) 1 = if r = 0 then 1 else 0) ∧ (kdT (xtm M (t + 62) (mI M (t + 62) 0).toNat) → svA9 (xtm M (t + 62) (mI M (t + 62) 0).toNat) r)) := by
  obtain ⟨T, Kt, N, A, B, D, Cw, p, O, P, K, p', O', P', K', Ab, Be, Cm, U, Ag, Bg, Cg, cn, cc, bc, Ls, v, R, k, Z, hj⟩ := h
  obtain ⟨⟨z1, z2⟩, -, e0⟩ := hj.top
  have jn := hj.2.2.2.1
  rw [e0] at c0
  refine (n_CA_solve (d := d) jn.1 jn.2.1 jn.2.2.1 z1 (by clear jn hj; omega) wt_r wt_s).mono (fun r M' q => ?_)
  obtain ⟨ix, ⟨L', Rn, kn, N1, P1, Q1, G1, V1⟩, ch, qsv, qk⟩ := q
  rw [e0, Int.toNat_natCast]
  obtain ⟨⟨a1, a2⟩, a3⟩ := hj.go0 N1 P1 Q1 (V1 2 (by decide) (by decide)) ch
  exact ⟨ix, ⟨a1, a2, by rw [a3, jn.2.2.1.2.2.1.1]; exact qk⟩, qsv⟩
theorem c_CA_judge {l : Int} (hl : l = 1 ∨ l = 2) (h : CI c9 C n t Ps Pc M) (c0 : mI M (t + 62) 0 ≠ 0) : Ci G y_CA_judge (d + 9) [vr t, vi l] M (fun r M' => i32 r ∧ cQ c9 C n t Ps Pc M M') := by
  obtain ⟨T, Kt, N, A, B, D, Cw, p, O, P, K, p', O', P', K', Ab, Be, Cm, U, Ag, Bg, Cg, cn, cc, bc, Ls, v, R, k, Z, hj⟩ := h
  obtain ⟨-, -, e0⟩ := hj.top
  have jn := hj.2.2.2.1
  rw [e0] at c0
  refine (n_CA_judge (d := d) hl jn.1 jn.2.1 jn.2.2.1 (by clear jn hj; omega) (tld_of hl hj.2.2.1.2.2.2.2.2.2.1) wt_r wt_s).mono (fun r M' q => ?_)
  obtain ⟨ix, ⟨L', Rn, kn, N1, P1, Q1, G1, V1⟩, e30⟩ := q
  refine ⟨ix, hj.go N1 P1 Q1 (V1 2 (by decide) (by decide)) (fun u => ?_) (by rw [V1 0 (by decide) (by decide)])⟩
  rw [V1 0 (by decide) (by decide)] at u
  exact chs_same (jn.2.2.2.2.1 u) e30 (G1 4 (by decide))
theorem c_CA_check (h : CI c9 C n t Ps Pc M) : Ci G y_CA_check (d + 8) [vr t] M (fun r M' => i32 r ∧ cQ c9 C n t Ps Pc M M') := by
  obtain ⟨T, Kt, N, A, B, D, Cw, p, O, P, K, p', O', P', K', Ab, Be, Cm, U, Ag, Bg, Cg, cn, cc, bc, Ls, v, R, k, Z, hj⟩ := id h
  have jn := hj.2.2.2.1
  refine (n_CA_check (d := d) jn.1 jn.2.1 jn.2.2.1 wt_s).mono (fun r M' q => ?_)
  obtain ⟨ix, q⟩ := q
  rcases q with e | ⟨⟨L', Rn, kn, N1, P1, Q1, G1, V1⟩, ev, e30⟩
  · exact h.rd ⟨e, ix⟩
  · refine ⟨ix, hj.go N1 P1 Q1 (V1 2 (by decide) (by decide)) (fun u => ?_) (by rw [ev])⟩
    rw [ev] at u
    exact chs_same (jn.2.2.2.2.1 u) e30 (G1 4 (by decide))
theorem c_CA_within {l : Int} (hl : 0 ≤ l ∧ l ≤ 32) (h : CI c9 C n t Ps Pc M) (c0 : mI M (t + 62) 0 ≠ 0) : Ci G y_CA_within (d + 9) [vr t, vi l] M (fun r M' => i32 r ∧ cQ c9 C n t Ps Pc M M' ∧ anA9 (xtm M (t + 62) (mI M (t + 62) 0).toNat) l.toNat r) := by
  obtain ⟨T, Kt, N, A, B, D, Cw, p, O, P, K, p', O', P', K', Ab, Be, Cm, U, Ag, Bg, Cg, cn, cc, bc, Ls, v, R, k, Z, hj⟩ := h
  obtain ⟨⟨z1, z2⟩, ⟨l1, l2⟩, e0⟩ := hj.top
  have jn := hj.2.2.2.1
  rw [e0] at c0
  refine (n_CA_within (d := d) hl jn.1 jn.2.1 jn.2.2.1 z1 (by clear jn hj; omega) jn.2.2.2.1 wt_r wt_s).mono (fun r M' q => ?_)
  obtain ⟨⟨ix, an⟩, v', L', Rn, kn, N1, tr, hv, f, cn', rq, ⟨g1, g2, g3, g4, g5⟩, f2, rt⟩ := q
  rw [e0, Int.toNat_natCast]
  obtain ⟨-, -, -, -, h5, ⟨h6, h6', h6z⟩, h7, h8⟩ := jn
  have sp := f.sm l2 (fun u => u.elim z2 (fun u => by omega))
  have r11 := hj.2.2.2.1.2.2.1.2.2.1.1
  have kf : knF M M' t := by
    unfold knF
    rw [tr.2.2.1.1, (vsw hv).1.1, g3, r11]
  refine ⟨ix, (fun q => ⟨q.1, q.2.kn kf⟩) (hj.num N1.cnt.2.2.2 (f.mono (fun x _ u => u.elim Or.inl (fun u => Or.inr (Or.inl u)))) (fun i hi => rt i (by omega) (by omega)) (by rw [g2]) (by rw [g2]) (by rw [g2]) (by rw [g2]) ⟨N1, cn', tr, f2, fun u => ?_, ⟨rq.2.2.2.1 _ h6, rq.2.2.2.2 _ h6', Or.inl h6z⟩, by unfold Pch; rw [sp.1, sp.2.1, sp.2.2.2]; exact h7, by rw [g2]; exact h8⟩ rq), an⟩
  rw [(vsw hv).1.1, g3] at u
  exact chs_same (h5 u) g5 (g1 4 (by decide))
/-- three tables to look at -/
theorem Ns.tv3 (h : Ns Z t Ls v R k cn cc bc M) : Tv3 Ls M t (t + 235) (v 0) (v 1) (v 3) (R 0) (R 1) (R 3) (k 0) (k 1) (k 3) cn := by
  obtain ⟨h1, -, h3, -⟩ := h
  have one : ∀ i, i < 4 → i ≠ 2 → Tv Ls M (t + 235) (v i) (R i) (k i) cn := fun i hi i2 => ⟨(h1.2.1.1 i hi).1, (h1.2.1.1 i hi).2.1, h1.2.2.2 i hi i2⟩
  exact ⟨⟨h3.2.2.1.1, h3.2.2.1.2.1, h3.2.2.1.2.2.2⟩, one 0 (by decide) (by decide), one 1 (by decide) (by decide), one 3 (by decide) (by decide)⟩
/-- a step of numbers that touches no table, in the class -/
theorem CJ.gox {Tn Cn' : Nat → Prop} (hj : CJ c9 C n t Ps Pc T Kt N A B D Cw p O P K p' O' P' K' Ab Be Cm U Ag Bg Cg cn cc bc Ls v R k Z M) (q : NX Ls (Wt t) Tn Cn' False (t + 85 + 1) M M') (hT : ∀ x, Tn x → x < t + 235) (hC : ∀ x, Cn' x → x = t ∨ x = t + 234 ∨ x = t + 229) (ti : ∀ i, i ≠ 18 → mI M' t i = mI M t i) (hp : (mK M' (t + 234) = 32 ∧ mN M' (t + 234) = 400 ∧ Pch M' (t + 234)) ∧ ∃ c : Nat, mI M' t 18 = ((c : Nat) : Int) ∧ c ≤ 400) : cQ c9 C n t Ps Pc M M' := by
  obtain ⟨⟨z1, z2⟩, ⟨l1, l2⟩, -⟩ := hj.top
  obtain ⟨zz, -⟩ := hj.2.2.2.2.1.nz
  obtain ⟨n1, n2, n3, n4, n5, ⟨n6, n6', n6z⟩, n7, n8⟩ := hj.2.2.2.1
  have hF := n1.1.2.1.1
  have nC : ∀ x, ¬ Z x → x ≠ t → x ≠ t + 234 → ¬ Cn' x := fun x a b c u => by
    rcases hC x u with w | w | w
    · exact b w
    · exact c w
    · rw [w] at a; exact a n6z
  have nv : ∀ j, j < 4 → ¬ Cn' (v j) := fun j hj u => by
    have zv := (n2.2.2 j hj).1
    have kv := (n1.2.1.1 j hj).1.1
    rcases hC _ u with w | w | w
    · rw [w] at zv; exact z1 zv
    · rw [w] at zv; exact z2 zv
    · rw [w, n6'.1.1] at kv; exact absurd kv (by decide)
  have ng : ∀ i, i ≤ 9 → ¬ Cn' (t + 62 + i) := fun i hi => nC _ (zz _ (by omega) (by omega)) (by omega) (by omega)
  have lt : ∀ x, Cn' x → x < t + 235 := fun x u => by have := hC x u; omega
  obtain ⟨N1, V1⟩ := n1.nxg q hT lt nv ng
  obtain ⟨c', f⟩ := q.cnu hF n2 n1.2.1
  have f' : FC (Yn Z t) M M' := f.mono (fun x _ u => by
    rcases u with u | u
    · exact Or.inl u
    · rcases hC x u with w | w | w
      · exact Or.inr (Or.inl w)
      · exact Or.inr (Or.inr w)
      · rw [w]; exact Or.inl n6z)
  have oct : Oc Ls M t := n2.oc l1 z1
  have rt : mR M' t = mR M t := (q.oth oct (by omega)).2.2.1
  have rq := q.rq (k := k) hF
  have g4 : mI M' (t + 62 + 4) = mI M (t + 62 + 4) := (q.oth (n1.1.2.2.2 4 (by decide)) (by omega)).2.2.2 (ng 4 (by decide))
  have s30 : mI M' (t + 85 + 30) = mI M (t + 85 + 30) := (q.oth (n1.1.2.2.1 _ st30) (by omega)).2.2.2 (fun u => by have := hC _ u; omega)
  refine (fun w => ⟨w.1, w.2.kn (hj.knf (by rw [rt]) (by rw [V1 0 (by decide)]))⟩) (hj.num q.ok f' (fun i _ => by rw [rt]) (ti 1 (by decide)) (ti 6 (by decide)) (ti 7 (by decide)) (ti 8 (by decide)) ⟨N1, c', n3.cg (q.kind l1) (fun i _ => by rw [rt]) f.1.1, by rw [V1 2 (by decide)]; exact n4, fun u => ?_, ⟨n6, rq.2.2.2.2 _ n6', Or.inl n6z⟩, hp.1, hp.2⟩ rq)
  rw [V1 0 (by decide)] at u
  exact chs_same (n5 u) s30 g4
theorem c_CA_compare {l1 l2 l3 l4 : Int} (i1 : i32 l1) (i2 : i32 l2) (i3 : i32 l3) (i4 : i32 l4) (h : CI c9 C n t Ps Pc M) : Ci G y_CA_compare (d + 6) [vr t, vi l1, vi l2, vi l3, vi l4] M (fun r M' => i32 r ∧ cQ c9 C n t Ps Pc M M') := by
  obtain ⟨T, Kt, N, A, B, D, Cw, p, O, P, K, p', O', P', K', Ab, Be, Cm, U, Ag, Bg, Cg, cn, cc, bc, Ls, v, R, k, Z, hj⟩ := id h
  obtain ⟨⟨z1, z2⟩, ⟨lt1, lt2⟩, -⟩ := hj.top
  have jn := hj.2.2.2.1
  have sk := jn.1.1.2.1.2.1
  have so := jn.1.1.1.2.1
  have hF := jn.1.1.2.1.1
  have w9 := wt_s (t := t) (t + 85 + 1 + 9) (by omega) (by omega)
  have w11 := wt_s (t := t) (t + 85 + 1 + 11) (by omega) (by omega)
  refine (s_CA_compare (d := d) (s := t + 85) (b := t + 235) i1 i2 i3 i4 hF sk hj.tg ⟨jn.2.2.1.2.1.2, so.1.1, so.2.1.1⟩ jn.tv3 (by omega) (by omega) (by omega)).mono (fun r M' q => ?_)
  obtain ⟨ix, q⟩ := q
  rcases q with e | q
  · exact h.rd ⟨e, ix⟩
  · have X := q.nx hF
    have ot := X.oth (jn.2.1.oc lt1 z1) (by omega)
    have op := X.oth (jn.2.1.oc lt2 z2) (by omega)
    obtain ⟨-, -, -, -, -, -, n7, n8⟩ := jn
    exact ⟨ix, hj.gox X (fun x u => by unfold Tor at u; omega) (fun x u => u.elim) (fun i _ => by rw [ot.2.2.2 (fun u => u)]) ⟨by unfold Pch; rw [op.1, op.2.1, op.2.2.2 (fun u => u)]; exact n7, by rw [ot.2.2.2 (fun u => u)]; exact n8⟩⟩
/-- the top's own numbers -/
theorem CJ.shn (hj : CJ c9 C n t Ps Pc T Kt N A B D Cw p O P K p' O' P' K' Ab Be Cm U Ag Bg Cg cn cc bc Ls v R k Z M) : Shn Ls M t (t + 85) (t + 227) (t + 229) (t + 235) ∧ Prt Ls M t (t + 234) (t + 227) := by
  obtain ⟨⟨z1, z2⟩, ⟨lt1, lt2⟩, -⟩ := hj.top
  have jn := hj.2.2.2.1
  have so := jn.1.1.1.2.1
  have os := jn.1.1.2.2.1 (t + 85) (Or.inl rfl)
  obtain ⟨n1, n2, n3, n4, n5, ⟨n6, n6', n6z⟩, n7, n8⟩ := jn
  have ot := n2.oc lt1 z1
  exact ⟨⟨⟨n3.1, n3.2.1.2, n3.2.2.2.1.1, n3.2.2.2.1.2.1⟩, ⟨so.1.1, so.2.1.1⟩, ⟨n6, n6'⟩, ⟨ot, os, by omega⟩, by omega, by omega, by omega⟩, ⟨n3.1, n3.2.2.2.1.1, n3.2.2.2.1.2.2⟩, ⟨n7.1, n7.2.1⟩, ⟨ot, n2.oc lt2 z2, by omega⟩, n6, n7.2.2⟩
theorem tsh_lo (h : Tsh (t + 85) (t + 227) (t + 229) x) : x < t + 235 := by unfold Tsh T4 at h; omega
theorem wt_h : ∀ x, t + 85 ≤ x → x < t + 235 → 300 ≤ Wt t x := fun x _ hx => by unfold Wt; rw [if_pos hx]; decide
theorem c_CA_billionths {l1 l2 : Int} (i1 : i32 l1) (i2 : i32 l2) (h : CI c9 C n t Ps Pc M) : Ci G y_CA_billionths (d + 5) [vr t, vi l1, vi l2] M (fun r M' => i32 r ∧ cQ c9 C n t Ps Pc M M') := by
  obtain ⟨T, Kt, N, A, B, D, Cw, p, O, P, K, p', O', P', K', Ab, Be, Cm, U, Ag, Bg, Cg, cn, cc, bc, Ls, v, R, k, Z, hj⟩ := id h
  obtain ⟨⟨z1, z2⟩, ⟨lt1, lt2⟩, -⟩ := hj.top
  have jn := hj.2.2.2.1
  have hF := jn.1.1.2.1.1
  have a1 := wt_h (t := t) (t + 227) (by omega) (by omega)
  have a2 := wt_h (t := t) (t + 229 + 1) (by omega) (by omega)
  have a3 := wt_h (t := t) (t + 229 + 3) (by omega) (by omega)
  have a4 := wt_h (t := t) (t + 85 + 1 + 5) (by omega) (by omega)
  have a5 := wt_h (t := t) (t + 85 + 1 + 7) (by omega) (by omega)
  refine (s_CA_billionths (d := d) i1 i2 hF jn.1.1.2.1.2.1 hj.tg hj.shn.1 jn.tv3 ⟨by omega, by omega, by omega, by omega, by omega⟩).mono (fun r M' q => ?_)
  obtain ⟨ix, q⟩ := q
  rcases q with e | X
  · exact h.rd ⟨e, ix⟩
  · have ot := X.oth (jn.2.1.oc lt1 z1) (by omega)
    have op := X.oth (jn.2.1.oc lt2 z2) (by omega)
    obtain ⟨-, -, -, -, -, -, n7, n8⟩ := jn
    have nt : ¬ (fun x => x = t + 229) t := fun u => by have u' : t = t + 229 := u; omega
    have np : ¬ (fun x => x = t + 229) (t + 234) := fun u => by have u' : t + 234 = t + 229 := u; omega
    exact ⟨ix, hj.gox X (fun x u => tsh_lo u) (fun x u => Or.inr (Or.inr u)) (fun i _ => by rw [ot.2.2.2 nt]) ⟨by unfold Pch; rw [op.1, op.2.1, op.2.2.2 np]; exact n7, by rw [ot.2.2.2 nt]; exact n8⟩⟩
theorem c_CA_print {l1 l2 : Int} (i1 : i32 l1) (i2 : i32 l2) (h : CI c9 C n t Ps Pc M) : Ci G y_CA_print (d + 6) [vr t, vi l1, vi l2] M (fun r M' => i32 r ∧ cQ c9 C n t Ps Pc M M') := by
  obtain ⟨T, Kt, N, A, B, D, Cw, p, O, P, K, p', O', P', K', Ab, Be, Cm, U, Ag, Bg, Cg, cn, cc, bc, Ls, v, R, k, Z, hj⟩ := id h
  have jn := hj.2.2.2.1
  have hF := jn.1.1.2.1.1
  have a1 := wt_h (t := t) (t + 227) (by omega) (by omega)
  refine (s_CA_print (d := d) i1 i2 hF jn.1.1.2.1.2.1 hj.tg hj.shn.1 hj.shn.2 jn.tv3 (fun x u => ?_) (by omega)).mono (fun r M' q => ?_)
  · have := wt_h (t := t) x (by unfold Tre T4 at u; omega) (by unfold Tre T4 at u; omega)
    omega
  obtain ⟨ix, q⟩ := q
  rcases q with e | ⟨X, pt, ⟨c, e18, c3⟩, ti⟩
  · exact h.rd ⟨e, ix⟩
  · exact ⟨ix, hj.gox X (fun x u => tsh_lo u) (fun x u => u) ti ⟨⟨pt.2.1.1, pt.2.1.2, pt.2.2.2.2⟩, c, e18, by omega⟩⟩
end NCY
end
section
/-! The class at rest: its game changes; choose, adopt. -/
section NCZ
variable {G : mG} {d t x n cn cc bc cn' cc' bc' T Kt N A B D Cw p O P K p' O' P' K' Ab Be Cm U Ag Bg Cg U1 Ag1 Bg1 Cg1 Ps Pc Ps1 Pc1 z : Nat} {M M' M1 : mM} {Z Y C C1 : Nat → Prop} {v v' R k Rn kn : Nat → Nat} {Ls L L' l1 l2 m m' : List Nat} {c9 c8 : tG9}
/-- a step and its room -/
def stp (C : Nat → Prop) (Ps Pc : Nat) (M : mM) (C1 : Nat → Prop) (Ps1 Pc1 : Nat) (M' : mM) : Prop := FC C M M' ∧ (∀ x, C1 x → C x ∨ (mZ M ≤ x ∧ x < mZ M')) ∧ mS M' + Ps ≤ mS M + Ps1 ∧ 64 * mZ M' + Pc ≤ 64 * mZ M + Pc1
/-- some cells of a list of cells are other ones -/
theorem nd_mid (h : (l1 ++ (m ++ l2)).Nodup) (h1 : ∀ x, x ∈ l1 → x < z) (h2 : ∀ x, x ∈ l2 → x < z) (hm : ∀ x, x ∈ m' → x ∈ m ∨ z ≤ x) (nd : m'.Nodup) : (l1 ++ (m' ++ l2)).Nodup := by
  rw [List.nodup_append, List.nodup_append] at h ⊢
  obtain ⟨a1, ⟨a2, a3, a4⟩, a5⟩ := h
  refine ⟨a1, ⟨nd, a3, fun x hx y hy e => ?_⟩, fun x hx y hy e => ?_⟩
  · rcases hm x hx with u | u
    · exact a4 x u y hy e
    · have := h2 y hy; omega
  · rcases List.mem_append.mp hy with u | u
    · rcases hm y u with w | w
      · exact a5 x hx y (List.mem_append.mpr (Or.inl w)) e
      · have := h1 x hx; omega
    · exact a5 x hx y (List.mem_append.mpr (Or.inr u)) e
/-- the numbers' side when the game is another -/
theorem Ns.game (h : Ns Z t Ls v R k cn cc bc M) (o : mOk M') (f : FC Y M M') (hY : ∀ x, Y x → ¬ Z x) (hp : ¬ Y (t + 234)) (zp : t + 234 < mZ M) (hr : ∀ i, 9 ≤ i → mR M' t i = mR M t i) (i18 : mI M' t 18 = mI M t 18) (gk : GK M' (t + 62)) (gt : GTT M' (t + 62) cn' cc' bc') (tk : ∀ i, i < 4 → i ≠ 2 → mI M (v i) 1 = 0 ∨ cn' = cn ∨ cn' = 0) (ch : mI M (v 0) 1 ≠ 0 → Chs M' (t + 85) (t + 62) cn') : Ns Z t Ls v R k cn' cc' bc' M' ∧ (Pn Ls k M' = Pn Ls k M ∧ Qn Ls k M' = Qn Ls k M) := by
  obtain ⟨h1, h2, h3, h4, h5, ⟨h6, h6', h6z⟩, h7, h8⟩ := h
  have nz : ∀ x, Z x → ¬ Y x := fun x a b => hY x b a
  have bz := h1.2.2.1
  have ks := f.ks h1 (fun x u => Or.inl (nz x (zm_in h2 x u)))
  have vI : ∀ i, i < 4 → mI M' (v i) = mI M (v i) := fun i hi => (f.sm (h1.2.1.1 i hi).1.2.2.2.2.1.1.1 (nz _ (h2.2.2 i hi).1)).2.2.2
  have sp := f.sm zp hp
  obtain ⟨N, cps⟩ := h1.keep ks ⟨o, h1.1.1.2.1.sm ks.2.1, gk.gk9.1, gk.gk9.2, gt⟩ (fun i hi i2 => (tk i hi i2).imp (fun e => by rw [vI i hi]; exact e) (fun e => e.imp (fun e => ⟨by rw [vI i hi], e⟩) id))
  exact ⟨⟨N, ks.cnu h2, h3.cg (f.2 t h3.2.2.2.2).1 hr f.1.1, by rw [vI 2 (by decide)]; exact h4, fun u => ch (by rw [← vI 0 (by decide)]; exact u), ⟨h6, h6'.sm (f.sm h6'.1.2.2 (nz _ h6z)) f.1.1, h6z⟩, by unfold Pch; rw [sp.1, sp.2.1, sp.2.2.2]; exact h7, by rw [i18]; exact h8⟩, pn_cg cps⟩
/-- cells of the game and of the top -/
def Yg (t Ag Bg x : Nat) : Prop := x = t ∨ (t + 62 ≤ x ∧ x < t + 85) ∨ x = Ag ∨ x = Bg
theorem nd9g {T A B D O P O' P' Ab Be Ag Bg : Nat} (nd : [T, A, B, D, O, P, O', P', Ab, Be, Ag, Bg].Nodup) : (T ≠ Ag ∧ T ≠ Bg) ∧ (O ≠ Ag ∧ O ≠ Bg) ∧ (P ≠ Ag ∧ P ≠ Bg) := by
  simp only [List.nodup_cons, List.mem_cons, not_or, List.not_mem_nil, not_false_eq_true, and_true] at nd
  obtain ⟨⟨-, -, -, -, -, -, -, -, -, t1, t2⟩, -, -, -, ⟨-, -, -, -, -, o1, o2⟩, ⟨-, -, -, -, p1, p2⟩, -⟩ := nd
  exact ⟨⟨t1, t2⟩, ⟨o1, o2⟩, p1, p2⟩
theorem yl1 {t A B x : Nat} (pA : A = t + 72 + 3 ∨ t + 235 ≤ A) (pB : B = t + 72 + 4 ∨ t + 235 ≤ B) (h : (t + 2 ≤ x ∧ x < t + 62) ∨ (t + 85 ≤ x ∧ x < t + 235)) (u : x = t ∨ (t + 62 ≤ x ∧ x < t + 85) ∨ x = A ∨ x = B) : False := by
  rcases u with u | u | u | u
  · clear pA pB; omega
  · clear pA pB; omega
  · clear pB; omega
  · clear pA; omega
theorem yl2 {t A B x : Nat} (h : x ≠ t ∧ ¬ (t + 62 ≤ x ∧ x < t + 85)) (a : x ≠ A ∧ x ≠ B) (u : x = t ∨ (t + 62 ≤ x ∧ x < t + 85) ∨ x = A ∨ x = B) : False := by
  rcases u with u | u | u | u
  · exact h.1 u
  · exact h.2 u
  · exact a.1 u
  · exact a.2 u
theorem yl3 {t x : Nat} (h : x = t + 1 ∨ t + 235 ≤ x) : x ≠ t ∧ ¬ (t + 62 ≤ x ∧ x < t + 85) := by omega
theorem yl4 {t p p' O i : Nat} (o : O = p + i ∨ t + 235 ≤ O) (hi : i ≤ 2) (pp : (p = t + 30 ∧ p' = t + 46) ∨ (p = t + 46 ∧ p' = t + 30)) : O ≠ t ∧ ¬ (t + 62 ≤ O ∧ O < t + 85) := by omega
theorem yg_lo (h : Ap Z C t T A B D O P O' P' Ab Be Ag Bg M) (hx : Tx c9 t T Kt N A B D Cw p O P K p' O' P' K' Ab Be Cm M) (hm : MK M (t + 235) (t + 72) U Ag Bg Cg) : (∀ x, t + 2 ≤ x → x < t + 62 → ¬ Yg t Ag Bg x) ∧ (¬ Yg t Ag Bg T ∧ ¬ Yg t Ag Bg O ∧ ¬ Yg t Ag Bg P) ∧ (∀ x, Yg t Ag Bg x → C x ∧ ¬ Z x) ∧ ¬ Yg t Ag Bg (t + 234) ∧ (∀ x, t + 85 ≤ x → x < t + 235 → ¬ Yg t Ag Bg x) := by
  obtain ⟨z1, -⟩ := h.nz
  obtain ⟨c1, c2, c3⟩ := h.oc
  have o4 := hx.2.2.2.2.1.2.2.2.1
  have pp := hx.2.2.2.2.2.1
  have pT := h.2.2.1.1
  have ab := hm.2.2.2.2.2.1
  have hn := h.1
  have nd := h.2.1
  clear hx hm
  obtain ⟨a1, a2, a3⟩ := nd9g nd
  obtain ⟨b1, b2, -⟩ := ab
  clear nd h
  unfold Yg
  refine ⟨fun x a b u => yl1 b1 b2 (Or.inl ⟨a, b⟩) u, ⟨fun u => yl2 (yl3 pT) a1 u, fun u => yl2 (yl4 o4.1 (by decide) pp) a2 u, fun u => yl2 (yl4 o4.2.1 (by decide) pp) a3 u⟩, fun x u => ?_, fun u => yl1 b1 b2 (Or.inr ⟨by omega, by omega⟩) u, fun x a b u => yl1 b1 b2 (Or.inr ⟨a, b⟩) u⟩
  rcases u with u | u | u | u
  · rw [u]; exact ⟨(c1 t (by omega) (by omega)).1, z1 t (by omega) (by omega)⟩
  · exact ⟨(c1 x (by omega) (by omega)).1, z1 x (by omega) (by omega)⟩
  · rw [u]; exact ⟨(c3 Ag (by simp)).1, hn _ (Or.inr (Or.inr (by simp)))⟩
  · rw [u]; exact ⟨(c3 Bg (by simp)).1, hn _ (Or.inr (Or.inr (by simp)))⟩
/-- the game's arrays may be new -/
theorem Ap.game (h : Ap Z C t T A B D O P O' P' Ab Be Ag Bg M) (hz : mZ M ≤ mZ M') (e1 : Ag1 = Ag ∨ (mZ M ≤ Ag1)) (e2 : Bg1 = Bg ∨ (mZ M ≤ Bg1)) (z1 : Ag1 < mZ M' ∧ Bg1 < mZ M') (ne : Ag1 ≠ Bg1) : Ap Z (Zn C M M') t T A B D O P O' P' Ab Be Ag1 Bg1 M' := by
  obtain ⟨c1, c2, c3⟩ := h.oc
  have nd : ([T, A, B, D, O, P, O', P', Ab, Be] ++ ([Ag, Bg] ++ [])).Nodup := h.2.1
  have nd' : ([T, A, B, D, O, P, O', P', Ab, Be] ++ ([Ag1, Bg1] ++ [])).Nodup := nd_mid nd (z := mZ M) (fun x hx => (c3 x (List.mem_append.mpr (Or.inl hx) : x ∈ [T, A, B, D, O, P, O', P', Ab, Be] ++ [Ag, Bg])).2) (fun x hx => absurd hx List.not_mem_nil) (fun x hx => by
    rcases List.mem_cons.mp hx with u | u
    · rw [u]; exact e1.imp (fun e => by rw [e]; simp) id
    · rw [List.mem_singleton.mp u]; exact e2.imp (fun e => by rw [e]; simp) id) (by simp [ne])
  refine h.re hz nd' h.2.2.1 (fun x hx => ?_)
  rcases List.mem_append.mp (show x ∈ [T, A, B, D, O, P, O', P', Ab, Be] ++ [Ag1, Bg1] from hx) with u | u
  · exact Or.inl (List.mem_append.mpr (Or.inl u) : x ∈ [T, A, B, D, O, P, O', P', Ab, Be] ++ [Ag, Bg])
  · rcases List.mem_cons.mp u with u | u
    · rcases e1 with e | e
      · rw [u, e]; exact Or.inl (by simp)
      · rw [u]; exact Or.inr ⟨e, z1.1⟩
    · rcases e2 with e | e
      · rw [List.mem_singleton.mp u, e]; exact Or.inl (by simp)
      · rw [List.mem_singleton.mp u]; exact Or.inr ⟨e, z1.2⟩
theorem rmc_game {S1 : Nat} (h6 : Rmc Kt Cw K K' Cm Cg Ps Pc Ls k M) (pe : Pn Ls k M' = Pn Ls k M ∧ Qn Ls k M' = Qn Ls k M) (r1 : mS M' + 4 * Cg ≤ mS M + 4 * Cg1) (r2 : 64 * mZ M' + 2 * Cg ≤ 64 * mZ M + 2 * Cg1) : Rmc Kt Cw K K' Cm Cg1 (Ps + 4 * Cg1 - 4 * Cg) (Pc + 2 * Cg1 - 2 * Cg) Ls k M' ∧ mS M' + Ps ≤ mS M + (Ps + 4 * Cg1 - 4 * Cg) ∧ 64 * mZ M' + Pc ≤ 64 * mZ M + (Pc + 2 * Cg1 - 2 * Cg) := by
  unfold Rmc at h6 ⊢
  rw [pe.1, pe.2]
  exact ⟨⟨by omega, by omega, h6.2.2⟩, by omega, by omega⟩
/-- a step of the game, in the class -/
theorem CJ.game (hj : CJ c9 C n t Ps Pc T Kt N A B D Cw p O P K p' O' P' K' Ab Be Cm U Ag Bg Cg cn cc bc Ls v R k Z M) (o : mOk M') (f : FC (Yg t Ag Bg) M M') (rt : mR M' t = mR M t) (i1 : mI M' t 1 = mI M t 1) (i6 : mI M' t 6 = mI M t 6) (i18 : mI M' t 18 = mI M t 18) (gm : Gm t U1 Ag1 Bg1 Cg1 cn' cc' bc' (n + 1) M') (e1 : Ag1 = Ag ∨ mZ M ≤ Ag1) (e2 : Bg1 = Bg ∨ mZ M ≤ Bg1) (tk : ∀ i, i < 4 → i ≠ 2 → mI M (v i) 1 = 0 ∨ cn' = cn ∨ cn' = 0) (ch : mI M (v 0) 1 ≠ 0 → Chs M' (t + 85) (t + 62) cn') (r1 : mS M' + 4 * Cg ≤ mS M + 4 * Cg1) (r2 : 64 * mZ M' + 2 * Cg ≤ 64 * mZ M + 2 * Cg1) (tx6 : 1 ≤ cn' → mI M t 6 ≠ 0) : ∃ Ps1 Pc1, CJ c9 (Zn C M M') (n + 1) t Ps1 Pc1 T Kt N A B D Cw p O P K p' O' P' K' Ab Be Cm U1 Ag1 Bg1 Cg1 cn' cc' bc' Ls v R k Z M' ∧ stp C Ps Pc M (Zn C M M') Ps1 Pc1 M' := by
  obtain ⟨-, ⟨lt1, lt2⟩, -⟩ := hj.top
  obtain ⟨h1, h2, h3, h4, h5, h6, h7⟩ := hj
  obtain ⟨y1, ⟨y3, y4, y5⟩, y6, y7, y8⟩ := yg_lo h5 h2 h3.2.1
  have tx := h2.fc o f y1 y3 y4 y5 (fun i _ => by rw [rt]) i1 i6
  obtain ⟨ns, pq⟩ := h4.game o f (fun x u => (y6 x u).2) y7 lt2 (fun i _ => by rw [rt]) i18 gm.1 (gm.2.2.2.2.2.1.gtt gm.2.2.2.2.2.2.2) tk ch
  have mk := gm.2.1.2.2.2.2.2
  have ap := h5.game f.1.1 e1 e2 ⟨mk.2.1.2.1, mk.2.1.2.2.1⟩ mk.1.2.2.1
  obtain ⟨rm, s1, s2⟩ := rmc_game (S1 := 0) h6 pq r1 r2
  exact ⟨_, _, ⟨o, tx, gm, ns, ap, rm, by rw [i6]; exact tx6⟩, f.mono (fun x _ u => (y6 x u).1), fun x u => u, s1, s2⟩
theorem CJ.q (hj : CJ c9 C1 (n + 1) t Ps1 Pc1 T Kt N A B D Cw p O P K p' O' P' K' Ab Be Cm U Ag Bg Cg cn cc bc Ls v R k Z M') (s : stp C Ps Pc M C1 Ps1 Pc1 M') : cQ0 c9 C n t Ps Pc M M' := ⟨C1, Ps1, Pc1, ⟨T, Kt, N, A, B, D, Cw, p, O, P, K, p', O', P', K', Ab, Be, Cm, U, Ag, Bg, Cg, cn, cc, bc, Ls, v, R, k, Z, hj⟩, s⟩
/-- choices are told, in the class -/
theorem CJ.told (hj : CJ c9 C n t Ps Pc T Kt N A B D Cw p O P K p' O' P' K' Ab Be Cm U Ag Bg Cg cn cc bc Ls v R k Z M) (o : mOk M') (f : FI (fun x => x = t + 62 + 3) M M') (gs : 1 ≤ cn → GS M' (t + 62) (cn - 1)) : cQ c9 C n t Ps Pc M M' := by
  have fc : FC (Yg t Ag Bg) M M' := f.fc (fun x u => by have u' : x = t + 62 + 3 := u; unfold Yg; omega)
  have ne : ∀ x, x ≠ t + 65 → mI M' x = mI M x := fun x hx => f.2.2.2.2.2.2 x hx
  have et := ne t (by omega)
  have g3 := hj.2.2.1
  have jn := hj.2.2.2.1
  obtain ⟨g1, g2, g4, g5, g6, g7, g8, g9⟩ := g3.up
  obtain ⟨Ps1, Pc1, q1, q2⟩ := hj.game o fc (by rw [f.2.2.1]) (by rw [et]) (by rw [et]) (by rw [et]) ⟨g1.eq2 (fun i _ => ⟨by rw [f.1], by rw [f.2.1]⟩) (fun i _ => by rw [f.2.2.1]), g2.fi f (by rw [ne _ (by omega)]), g4, by rw [ne (t + 77) (by omega), ne (t + 72) (by omega)]; exact g5, by rw [ne (t + 72) (by omega)]; exact g6, g7.told f, gs, g9⟩ (Or.inl rfl) (Or.inl rfl) (fun _ _ _ => Or.inr (Or.inl rfl)) (fun u => chs_same (jn.2.2.2.2.1 u) (ne _ (by omega)) (ne _ (by omega))) (by rw [f.2.2.2.2.2.1]; exact Nat.le_refl _) (by rw [f.2.2.2.2.1]; exact Nat.le_refl _) hj.2.2.2.2.2.2
  have v65 : v 0 ≠ t + 65 := fun e => (hj.2.2.2.2.1.nz).1 (t + 65) (by omega) (by omega) (by rw [← e]; exact hj.vz)
  exact ⟨q1.q q2, by rw [et], by rw [et], by rw [et], fun i _ i3 => ne _ (by omega), hj.knf (by rw [f.2.2.1]) (by rw [ne _ v65])⟩
theorem c_CA_choose {l1 l2 : Int} (i1 : i32 l1) (i2 : i32 l2) (h : CI c9 C n t Ps Pc M) (hp : cmdP M (t + 62) (mI M (t + 62) 0).toNat l1 l2) : Cv G y_CA_choose (d + 2) [vr t, vi l1, vi l2] M (fun M' => cQ c9 C n t Ps Pc M M') := by
  obtain ⟨T, Kt, N, A, B, D, Cw, p, O, P, K, p', O', P', K', Ab, Be, Cm, U, Ag, Bg, Cg, cn, cc, bc, Ls, v, R, k, Z, hj⟩ := h
  obtain ⟨-, -, e0⟩ := hj.top
  rw [e0, Int.toNat_natCast] at hp
  exact (g_CA_choose (d := d) i1 i2 hj.tg hj.2.2.1.2.2.2.2.2.2.1 hp).mono (fun M' q => hj.told q.1 q.2.1 (fun _ => q.2.2))
theorem c_CA_adopt (h : CI c9 C n t Ps Pc M) (kn : mI M (mR M t 11) 1 ≠ 0) : Cv G y_CA_adopt (d + 1) [vr t] M (fun M' => cQ c9 C n t Ps Pc M M') := by
  obtain ⟨T, Kt, N, A, B, D, Cw, p, O, P, K, p', O', P', K', Ab, Be, Cm, U, Ag, Bg, Cg, cn, cc, bc, Ls, v, R, k, Z, hj⟩ := h
  have jn := hj.2.2.2.1
  rw [jn.2.2.1.2.2.1.1] at kn
  exact (g_CA_adopt (d := d) (s := t + 85) hj.tg hj.2.2.1.2.2.2.2.2.2.1 jn.2.2.1.2.1.2 jn.1.1.1.2.1 ⟨jn.2.2.1.2.2.1.1, (jn.1.2.1.1 0 (by decide)).1.1⟩ kn (jn.2.2.2.2.1 kn)).mono (fun M' q => hj.told q.1 q.2.1 q.2.2)
end NCZ
end
section
/-! The class's program tells a game: what exploring it comes to. -/
section PGD
variable {z g p O P K V F1 L cnt Ab Be : Nat} {M : mM} {ns1 : Nat → Int} {sf1 ef1 : Nat → Nat} {X9 : xR9}
theorem pgm_dc (pg : Pgm X9 M p O P) (hw : PW M z p O P K V F1 ns1 sf1 ef1 L cnt) (hO : ¬ gaS g Ab Be O) (hP : ¬ gaS g Ab Be P) : ∃ (F : Nat) (ns : Nat → Int) (sf ef : Nat → Nat) (W pl nq : Nat → Int) (sm : Nat → Nat → Prop) (N n : Nat) (nms : List nm9) (tg : Nat × Nat) (cms : List cm9), gcx M g p O P L V F Ab Be ns sf ef W pl nq sm N n nms ∧ PGx M p O P L V cnt W pl nq sm n ns ef nms tg cms ∧ xpl9 (evq W pl nq sm N nms) (stpq W pl nq sm N nms V (mI M (p + 3)) (mI M (p + 4))) tg cms ((List.range V).map (mI M (p + 5))) = X9 := by
  obtain ⟨⟨W, pl, nq, sm, N, nms, gm⟩, c4, n, hq, ⟨L', ns, sf, ef, h1, h2, h3, h4, ⟨a1, a2, a3⟩, ⟨t1, t2⟩, h7, h8⟩, ⟨v3, v60, v12, ht⟩, hX⟩ := pg
  obtain ⟨pk, ⟨p2, -, -⟩, ⟨p3, -⟩, -, ⟨p12, -⟩, -⟩ := hw
  have eL : L' = L := by
    rw [p2] at h1
    omega
  subst eL
  have eV : vcn nms = V := by
    have v3 : mI M p 3 = ((vcn nms : Nat) : Int) := v3
    rw [p3] at v3
    omega
  have ec : gm.2.2.length = cnt := by
    have h7 : gm.2.2.length = c4.2.2.1 := h7
    have v12 : mI M p 12 = ((c4.2.2.1 : Nat) : Int) := v12
    rw [p12] at v12
    omega
  have eW : gm.1.length = V := a1.trans eV
  have vo : VlO nms gm.1 := ⟨a1, fun v x hx => ⟨(a2 v x hx).2.2.2.1, (a2 v x hx).2.2.2.2⟩, a3⟩
  obtain ⟨tg, htg⟩ : ∃ tg, gm.2.1 = some tg := by
    cases e : gm.2.1 with
    | none => exact absurd (t1 e) ht
    | some tg => exact ⟨tg, rfl⟩
  refine ⟨rcn nms, ns, sf, ef, W, pl, nq, sm, N, n, nms, tg, gm.2.2, ⟨⟨hO, hP, pk.2.2.2.2.1.2.1, pk.2.2.2.2.1.2.2, v60⟩, hq, h2, h3, rfl, eV⟩, ⟨fun l1 e l2 he e3 => ?_, fun l1 e l2 he e3 => ?_, t2 tg htg, ec, fun c cm hc => ?_⟩, ?_⟩
  · obtain ⟨x, hx, -, b1, -, b3⟩ := vlo_get vo he e3
    obtain ⟨y3, y4, -⟩ := a2 _ x hx
    rw [y3, y4]
    exact ⟨b1, b3⟩
  · obtain ⟨x, hx, -, b1, b2, b3⟩ := vlo_get vo he e3
    obtain ⟨-, -, y5, -⟩ := a2 _ x hx
    rw [y5]
    exact ⟨by omega, fun u => by have := b3 u; omega⟩
  · rw [← eV]
    exact h8 c cm hc
  · have eS : (List.range V).map (mI M (p + 5)) = gm.1.map (fun x => x.2.2) := by
      refine List.ext_getElem? (fun v => ?_)
      by_cases y : v < V
      · have hx := List.getElem?_eq_getElem (l := gm.1) (i := v) (by rw [eW]; exact y)
        rw [List.getElem?_map, List.getElem?_range y, List.getElem?_map, hx]
        exact congrArg some (a2 v _ hx).2.2.1
      · rw [List.getElem?_eq_none (by rw [List.length_map, List.length_range]; omega), List.getElem?_eq_none (by rw [List.length_map, eW]; omega)]
    rw [hX, eS]
    have eX : XpG (W, pl, nq, sm, N, nms, gm) = xpl9 (evq W pl nq sm N nms) (stpq W pl nq sm N nms V (fun v => (gm.1.getD v (0, 0, 0)).1) (fun v => (gm.1.getD v (0, 0, 0)).2.1)) tg gm.2.2 (gm.1.map (fun x => x.2.2)) := by
      rw [← eW]
      show xpl9 _ _ (gm.2.1.getD (0, 0)) _ _ = _
      rw [htg]
      rfl
    rw [eX]
    refine xpl_cg (fun sg => rfl) (fun cm hc => ⟨fun sg => rfl, fun b hb => ⟨fun sg => rfl, fun sg => stpq_lo (fun q hq9 => ?_)⟩⟩)
    obtain ⟨c, hc'⟩ := List.getElem?_of_mem hc
    obtain ⟨b', hb'⟩ := List.getElem?_of_mem hb
    obtain ⟨-, -, -, -, u, v, -, -, -, -, d10⟩ := h8 c cm hc'
    obtain ⟨-, -, s2, -, r, l', e9, -, d11, -⟩ := d10 b' b hb'
    obtain ⟨-, -, -, lt, -⟩ := d11 q hq9
    have lt' : q.1 < V := by
      rw [← eV]
      exact lt
    have hx := List.getElem?_eq_getElem (l := gm.1) (i := q.1) (by rw [eW]; exact lt')
    obtain ⟨y3, y4, -⟩ := a2 _ _ hx
    have gd : gm.1.getD q.1 (0, 0, 0) = gm.1[q.1]'(by rw [eW]; exact lt') := by
      rw [List.getD_eq_getElem?_getD, hx]
      rfl
    show mI M (p + 3) q.1 = (gm.1.getD q.1 (0, 0, 0)).1 ∧ mI M (p + 4) q.1 = (gm.1.getD q.1 (0, 0, 0)).2.1
    rw [gd]
    exact ⟨y3, y4⟩
end PGD
end
section
/-! The class at rest: what is known is forgotten; explore. -/
section NDA
variable {G : mG} {d t x n g s b cn cc bc cn' cc' bc' T Kt N A B D Cw p O P K p' O' P' K' Ab Be Cm U Ag Bg Cg U1 Ag1 Bg1 Cg1 Ps Pc Ps1 Pc1 Ps2 Pc2 z : Nat} {M M' M1 : mM} {Z Y C C1 C2 S : Nat → Prop} {v v' R k Rn kn : Nat → Nat} {Ls L : List Nat} {W : Nat → Nat} {c9 c8 : tG9}
theorem stp.trans (h : stp C Ps Pc M C1 Ps1 Pc1 M1) (q : stp C1 Ps1 Pc1 M1 C2 Ps2 Pc2 M') : stp C Ps Pc M C2 Ps2 Pc2 M' := by
  obtain ⟨h1, h2, h3, h4⟩ := h
  obtain ⟨q1, q2, q3, q4⟩ := q
  have a := h1.1.1
  have b := q1.1.1
  refine ⟨h1.trans (q1.mono (fun x _ u => h2 x u)), fun x u => ?_, by omega, by omega⟩
  rcases q2 x u with w | w
  · rcases h2 x w with y | y
    · exact Or.inl y
    · exact Or.inr ⟨y.1, by omega⟩
  · exact Or.inr ⟨by omega, w.2⟩
theorem cQ0.pre (h : stp C Ps Pc M C1 Ps1 Pc1 M1) (q : cQ0 c9 C1 n t Ps1 Pc1 M1 M') : cQ0 c9 C n t Ps Pc M M' := by
  obtain ⟨C2, Ps2, Pc2, q1, q2⟩ := q
  exact ⟨C2, Ps2, Pc2, q1, h.trans q2⟩
/-- the ghost of what was explored is free here -/
theorem cQ0.e9 {e : tE9} (h : cQ0 c9 C n t Ps Pc M M') : cQ0 (c9.1, c9.2.1, c9.2.2.1, c9.2.2.2.1, c9.2.2.2.2.1, c9.2.2.2.2.2.1, e) C n t Ps Pc M M' := by
  obtain ⟨C', Ps', Pc', ⟨T, Kt, N, A, B, D, Cw, p, O, P, K, p', O', P', K', Ab, Be, Cm, U, Ag, Bg, Cg, cn, cc, bc, Ls, v, R, k, Z, h1, ⟨w1, w2, w3, w4, w5, w6, w7, w8⟩, h3⟩, h4⟩ := h
  exact ⟨C', Ps', Pc', ⟨T, Kt, N, A, B, D, Cw, p, O, P, K, p', O', P', K', Ab, Be, Cm, U, Ag, Bg, Cg, cn, cc, bc, Ls, v, R, k, Z, h1, ⟨w1, w2, w3, w4, w5, w6, w7, w8⟩, h3⟩, h4⟩
theorem cQ0.e8 {k : Int} (h : cQ0 c9 C n t Ps Pc M M') : cQ0 (c9.1, kn9 c9.2 k) C n t Ps Pc M M' := cQ0.e9 (e := ((c9.2.2.2.2.2.2.1.1, c9.2.2.2.2.2.2.1.2.1, k), c9.2.2.2.2.2.2.2)) h
/-- ints of other cells, and the Solver -/
theorem Sb.fi (h : Sb L W s g cn cc bc M) (f : FI S M M') (o : mOk M') (hS : ∀ x, S x → Oc L M x) (hg : ∀ i, i ≤ 9 → ¬ S (g + i)) : Sb L W s g cn cc bc M' := by
  obtain ⟨hsg, ⟨hF, hSK, hRs, hfw⟩, hSt, hgo⟩ := h
  obtain ⟨xx, -⟩ := f.nx (T := fun _ => False) (r := False) (z := s + 1) o hF (fun _ u => u.elim) hS hSK.z9
  refine ⟨hsg.fi f o hg, ⟨xx.nf, xx.sk hF hSK, ?_, hfw.fi f⟩, fun x hx => (hSt x hx).fi f, fun i hi => (hgo i hi).fi f⟩
  obtain ⟨r1, r2, r3, r4⟩ := hRs
  exact ⟨r1.fi f, fun i hi => (r2 i hi).fi f, fun i hi => by rw [f.2.2.1]; exact r3 i hi, r4⟩
/-- what is known is forgotten -/
theorem CJ.forget (hj : CJ c9 C n t Ps Pc T Kt N A B D Cw p O P K p' O' P' K' Ab Be Cm U Ag Bg Cg cn cc bc Ls v R k Z M) (o : mOk M') (f : FI (Sfg (v 0) (v 1) (v 3)) M M') (e0 : mI M' (v 0) 1 = 0) (e1 : mI M' (v 1) 1 = 0) (e3 : mI M' (v 3) 1 = 0) : CJ c9 C n t Ps Pc T Kt N A B D Cw p O P K p' O' P' K' Ab Be Cm U Ag Bg Cg cn cc bc Ls v R k Z M' ∧ stp C Ps Pc M C Ps Pc M' ∧ (∀ i, i < 4 → mI M' (v i) 1 = 0) ∧ mI M' t = mI M t := by
  obtain ⟨⟨z1, z2⟩, ⟨lt1, lt2⟩, -⟩ := hj.top
  obtain ⟨h1, h2, h3, h4, h5, h6, h7⟩ := hj
  obtain ⟨y1, y2, ⟨y3, y4, y5⟩, y6⟩ := yn_lo h5 h2
  obtain ⟨n1, n2, n3, n4, n5, n6, n7, n8⟩ := h4
  have sv : ∀ x, Sfg (v 0) (v 1) (v 3) x → ∃ i, i < 4 ∧ i ≠ 2 ∧ x = v i := fun x u => by
    rcases u with u | u | u
    · exact ⟨0, by decide, by decide, u⟩
    · exact ⟨1, by decide, by decide, u⟩
    · exact ⟨3, by decide, by decide, u⟩
  have fz : FC Z M M' := f.fc (fun x u => by
    obtain ⟨i, hi, -, e⟩ := sv x u
    rw [e]; exact (n2.2.2 i hi).1)
  have sS : ∀ x, Sfg (v 0) (v 1) (v 3) x → Oc Ls M x ∧ mK M x = 13 := fun x u => by
    obtain ⟨i, hi, -, e⟩ := sv x u
    rw [e]; exact ⟨(n1.2.1.1 i hi).1.2.2.2.2.1.1, (n1.2.1.1 i hi).1.1⟩
  have gS : ∀ i, i ≤ 9 → ¬ Sfg (v 0) (v 1) (v 3) (t + 62 + i) := fun i hi u => by
    obtain ⟨j, hj, -, e⟩ := sv _ u
    exact (y2 (t + 62 + i) (by omega) (by omega)) (Or.inl (by rw [e]; exact (n2.2.2 j hj).1))
  have v2 : mI M' (v 2) = mI M (v 2) := f.2.2.2.2.2.2 _ (fun u => by
    obtain ⟨j, hj, j2, e⟩ := sv _ u
    exact (n1.2.1.2 2 j (by decide) hj (fun e => j2 e.symm)).2.1 e)
  have all : ∀ i, i < 4 → mI M' (v i) 1 = 0 := fun i hi => by
    have : i = 0 ∨ i = 1 ∨ i = 2 ∨ i = 3 := by omega
    rcases this with e | e | e | e <;> subst e
    · exact e0
    · exact e1
    · rw [v2]; exact n4
    · exact e3
  have N := n1.fi f o (fun x u => ⟨(sS x u).1, by rw [(sS x u).2]; decide⟩) (n1.1.fi f o (fun x u => (sS x u).1) gS) (fun j hj _ => Or.inr (all j hj))
  obtain ⟨-, er, ei⟩ := (fz.2 t lt1).2.2 z1
  have sp := fz.sm lt2 z2
  have zz : mZ M' = mZ M ∧ mS M' = mS M := ⟨f.2.2.2.2.1, f.2.2.2.2.2.1⟩
  have pe : Pn Ls k M' = Pn Ls k M ∧ Qn Ls k M' = Qn Ls k M := pn_cg (fun a _ => by unfold cp; rw [f.2.2.1, f.2.1])
  have c' : Cnu Z Ls (t + 85) v R k M' := ⟨n2.1, fun a ha => by rw [f.2.2.1]; exact n2.2.1 a ha, fun i hi => by rw [f.2.2.1]; exact n2.2.2 i hi⟩
  have fy := fz.yn (t := t)
  refine ⟨⟨o, h2.fc o fy y1 y3 y4 y5 (fun i _ => by rw [er]) (by rw [ei]) (by rw [ei]), h3.fc fy y2, ⟨N, c', n3.cg (fz.2 t lt1).1 (fun i _ => by rw [er]) fz.1.1, all 2 (by decide), fun u => absurd e0 u, ⟨n6.1, n6.2.1.fi f, n6.2.2⟩, by unfold Pch; rw [sp.1, sp.2.1, sp.2.2.2]; exact n7, by rw [ei]; exact n8⟩, h5.mz fz.1.1, ?_, by rw [ei]; exact h7⟩, ⟨fz.mono (fun x _ u => y6 x (Or.inl u)), fun x u => Or.inl u, by rw [zz.2]; exact Nat.le_refl _, by rw [zz.1]; exact Nat.le_refl _⟩, all, ei⟩
  unfold Rmc
  rw [pe.1, pe.2]
  exact h6
theorem yg_t {M9 M20 M28 : mM} {a b : Int} (f : FC (Yg t Ag Bg) M M9) (e1 : M20 = mUI M9 t 7 a) (e2 : M28 = mUI M20 t 8 b) : FC (Yg t Ag Bg) M M28 ∧ FI (fun x => x = t) M9 M28 ∧ ∀ i, i ≠ 7 → i ≠ 8 → mI M28 t i = mI M9 t i := by
  have f1 : FI (fun x => x = t) M9 M20 := by rw [e1]; exact FI.ui rfl
  have f2 : FI (fun x => x = t) M20 M28 := by rw [e2]; exact FI.ui rfl
  have ff := f1.trans f2
  refine ⟨f.trans (ff.fc (fun x u => Or.inl (Or.inl u))), ff, fun i a b => ?_⟩
  rw [e2, mI_UI, if_neg (fun u => b u.2), e1, mI_UI, if_neg (fun u => a u.2)]
/-- the game's side, when ints of the top change -/
theorem Gm.fit (h : Gm t U Ag Bg Cg cn cc bc n M) (f : FI (fun x => x = t) M M') : Gm t U Ag Bg Cg cn cc bc n M' := h.fc (f.fc (fun _ u => u)) (fun x a b u => by omega)
theorem c_CA_explore (hF : FMs G) (hn : n ≤ 1000) (h : CI c9 C n t Ps Pc M) (c6 : mI M t 6 ≠ 0) : Ci G y_CA_explore (d + 8) [vr t] M (fun r M' => i32 r ∧ (cQ0 (c9.1, exp9 c9.2) C n t Ps Pc M M' ∧ mI M' t 1 = mI M t 1 ∧ XC (exp9 c9.2) M' t) ∧ r = c9.2.2.2.2.2.1.1.1) := by
  obtain ⟨T, Kt, N, A, B, D, Cw, p, O, P, K, p', O', P', K', Ab, Be, Cm, U, Ag, Bg, Cg, cn, cc, bc, Ls, v, R, k, Z, hj⟩ := h
  have jn := hj.2.2.2.1
  obtain ⟨⟨z1, -⟩, -, -⟩ := hj.top
  have tv := jn.tv3
  have nt : ∀ i, i < 4 → t ≠ v i := fun i hi e => z1 (by rw [e]; exact (jn.2.1.2.2 i hi).1)
  refine k_CA_explore hj.1 ⟨jn.2.2.1.1, fun u => absurd u c6, fun _ => (s_CA_forget (d := d + 7) (cn := cn) hj.1 jn.2.2.1.1 ⟨tv.1, tv.2.1.tb, tv.2.2.1.tb, tv.2.2.2.tb⟩ ⟨nt 0 (by decide), nt 1 (by decide), nt 3 (by decide)⟩).mono (fun M4 q => ?_)⟩
  obtain ⟨o4, f4, q0, q1, q3⟩ := q
  obtain ⟨hj4, st4, all4, et4⟩ := hj.forget o4 f4 q0 q1 q3
  clear hj tv nt
  obtain ⟨-, ⟨lt1, lt2⟩, -⟩ := hj4.top
  have tr4 := hj4.2.2.2.1.2.2.1
  have r44 := hj4.2.1.1.2.2.1
  rw [tr4.2.1.1, r44]
  obtain ⟨V, F, ns, sf, ef, L, cnt, hw⟩ := hj4.2.1.2.2.2.2.2.2.1 (by rw [et4]; exact c6)
  obtain ⟨g1, g2, g3, g4, g5, g6, g7, g8⟩ := id hj4.2.2.1
  have nd := hj4.2.2.2.2.1.2.1
  have pp := hj4.2.1.2.2.2.2.2.1
  have na : O ≠ Ag ∧ O ≠ Bg ∧ P ≠ Ag ∧ P ≠ Bg := ⟨fun e => by rw [e] at nd; simp at nd, fun e => by rw [e] at nd; simp at nd, fun e => by rw [e] at nd; simp at nd, fun e => by rw [e] at nd; simp at nd⟩
  have gz : GZ M4 (t + 235) (t + 62) p O P K V F ns sf ef L cnt U Ag Bg Cg := ⟨o4, g1, g2, g3, hw, ⟨by clear nd hj4; omega, by clear nd hj4; omega, na⟩, g4, ⟨g5.1, by clear nd hj4; have e : mI M4 (t + 62 + 10) 9 ≤ 512 * (n : Int) := g5.2; omega⟩⟩
  have nga : ∀ y, y ≠ Ag → y ≠ Bg → ¬ ((t + 62 ≤ y ∧ y ≤ t + 84)) → ¬ gaS (t + 62) Ag Bg y := fun y y1 y2 y3 u => by unfold gaS at u; omega
  have oo := hw.1.2.2.2.1
  have oa : ¬ (t + 62 ≤ O ∧ O ≤ t + 84) ∧ ¬ (t + 62 ≤ P ∧ P ≤ t + 84) := by clear nd hj4 gz; omega
  obtain ⟨F0, ns0, sf0, ef0, W0, pl0, nq0, sm0, N0, n0, nms0, tg0, cms0, cx, px, eX⟩ := pgm_dc (g := t + 62) (Ab := Ag) (Be := Bg) (hj4.2.1.2.2.2.2.2.2.2.2 (by rw [et4]; exact c6)).2.2.2 hw (nga O na.1 na.2.1 oa.1) (nga P na.2.2.1 na.2.2.2 oa.2)
  have gx := x_Ga_discover (d := d) (FMx.of (G := G)) gz cx px
  rw [eX] at gx
  clear cx px eX
  refine ⟨o4, tr4.1, g1.1, gx.mono (fun r M9 q => ?_)⟩
  obtain ⟨q, hX⟩ := q
  have hr : r = c9.2.2.2.2.2.1.1.1 := by
    rcases hX with ⟨-, y, -⟩ | ⟨y0, y, -⟩
    · rw [y]
    · rw [y]; exact y0
  clear gx
  obtain ⟨ir, ⟨U1, w9, A1, B1, C1, hU, gy⟩, st, hr0, hr1⟩ := q
  obtain ⟨y1, y2, y3, y4, y5, y6, y7, ⟨fa, ⟨ea, eb⟩, rs, rz⟩, y9, y10⟩ := gy
  have fg : FC (Yg t Ag Bg) M4 M9 := fa.fc (fun x u => by unfold gaS at u; unfold Yg; omega) (fun x u => by unfold gaR at u; unfold Yg; omega)
  have tag : t ≠ Ag ∧ t ≠ Bg := by
    have := g2.2.2.2.2.2.1
    clear nd hj4
    omega
  have t9 := fa.2 t lt1
  have er9 : mR M9 t = mR M4 t := t9.2.2.2.1 (fun u => by unfold gaR at u; omega)
  have ei9 : mI M9 t = mI M4 t := t9.2.2.2.2 (fun u => by unfold gaS at u; omega)
  rw [er9, tr4.2.1.1]
  have kt9 : mK M9 t = 1 := by rw [t9.1]; exact tr4.1
  refine ⟨ir, y1, fun _ => ⟨kt9, y2.1⟩, fun v15 e15 => ⟨kt9, ?_, fun M20 e20 => ⟨fun _ => ?_, fun v24 e24 => ⟨?_, fun M28 e28 => ⟨ir, ?_⟩⟩⟩⟩⟩
  · rw [e15]; split
    · exact ⟨by decide, by decide⟩
    · exact (y1 _ _).1
  · rw [e20, mK_UI, mR_UI, er9, tr4.2.1.1]; exact y2.1
  · rw [e24]; split
    · exact ⟨by decide, by decide⟩
    · rw [e20, mI_UI]; split
      · rw [e15]; split
        · exact ⟨by decide, by decide⟩
        · exact (y1 _ _).1
      · exact (y1 _ _).1
  obtain ⟨f28, ft, it⟩ := yg_t fg e20 e28
  have e3 := hw.2.2.1.1
  have i3 := (hj4.2.1.2.2.2.2.2.2.2.2 (by rw [et4]; exact c6)).1
  have kv28 : mI M28 (mR M28 t 11) 1 = 0 := by
    have zv := hj4.vz
    have ap := hj4.2.2.2.2.1.1
    have lv : v 0 < mZ M4 := hj4.2.2.2.2.1.2.2.2.2 _ (hj4.2.2.2.2.1.2.2.2.1 _ (Or.inr (Or.inl zv)))
    have ng : ¬ gaS (t + 62) Ag Bg (v 0) := fun u => by
      refine ap (v 0) ?_ zv
      unfold gaS at u
      rcases u with u | u | u
      · exact Or.inl ⟨by clear nd hj4; omega, by clear nd hj4; omega⟩
      · rw [u]; exact Or.inr (Or.inr (by simp))
      · rw [u]; exact Or.inr (Or.inr (by simp))
    have nt9 : ¬ v 0 = t := fun e => hj4.top.1.1 (by rw [← e]; exact zv)
    rw [ft.2.2.1, er9, tr4.2.2.1.1, ft.2.2.2.2.2.2 (v 0) nt9, (fa.2 (v 0) lv).2.2.2.2 ng]
    exact all4 0 (by decide)
  have hXC : XC (exp9 c9.2) M28 t := by
    have g28 : ∀ i, i ≤ 9 → i ≠ 3 → mI M28 (t + 62 + i) = mI M9 (t + 62 + i) := fun i _ _ => ft.2.2.2.2.2.2 _ (show ¬ (t + 62 + i = t) by omega)
    have t7 : mI M28 t 7 = v15 := by rw [e28, mI_UI, if_neg (fun u => absurd u.2 (by decide)), e20, mI_UI, if_pos ⟨rfl, rfl⟩]
    have t8 : mI M28 t 8 = v24 := by rw [e28, mI_UI, if_pos ⟨rfl, rfl⟩]
    have g0 : mI M28 (t + 62) 0 = mI M9 (t + 62) 0 := by rw [ft.2.2.2.2.2.2 (t + 62) (show ¬ (t + 62 = t) by omega)]
    have k11 : mI M20 (mR M20 t 9) 11 = mI M9 (t + 62) 11 := by rw [e20, mR_UI, er9, tr4.2.1.1, mI_UI, if_neg (fun u => absurd u.1 (by omega))]
    unfold XC exp9 exG
    rcases hX with ⟨y0, y1, y2⟩ | ⟨y0, y1, cn2, ⟨y2, -, y3⟩, y4⟩
    · have n0 : c9.2.2.2.2.2.1.1.1 ≠ 0 := by rw [← hr]; exact y0
      rw [if_pos n0, t7, t8, e15, if_neg y0, e24, if_neg y0, k11, y2, g0, (hr1 y0).1, y1]
      exact ⟨rfl, ⟨rfl, kv28⟩, rfl, fun _ => rfl, fun u => absurd rfl u⟩
    · have n0 : ¬ (c9.2.2.2.2.2.1.1.1 ≠ 0) := fun u => u (by rw [← hr]; exact y0)
      have ln : c9.2.2.2.2.2.1.2.2.1.length = cn2 := by rw [← y3]; unfold Sm9; rw [List.length_map, List.length_range]
      obtain ⟨cn1, cc1, bc1, c1, gq, gs⟩ := hr0 y0
      have ec : cn2 = cn1 := by
        have := gq.1.1
        rw [y2] at this
        omega
      rw [if_neg n0, t7, t8, e15, if_pos y0, e24, if_pos y0, g0]
      refine ⟨rfl, ⟨rfl, kv28⟩, by rw [y2]; show ((cn2 : Nat) : Int) = ((c9.2.2.2.2.2.1.2.2.1.length : Nat) : Int); rw [ln], fun u => ?_, fun _ => XC.tb (M := M9) ⟨V, ?_, ?_, ?_⟩ g28⟩
      · have u' : c9.2.2.2.2.2.1.2.2.1 = [] := u
        rw [u'] at ln
        have : cn2 = 0 := ln.symm
        omega
      · show (V : Int) = c9.2.2.1
        rw [← i3, e3]
      · show Sm9 M9 (t + 62) V c9.2.2.2.2.2.1.2.2.1.length = c9.2.2.2.2.2.1.2.2.1
        rw [ln]
        exact y3
      · show xtm M9 (t + 62) c9.2.2.2.2.2.1.2.2.1.length = c9.2.2.2.2.2.1.2.2.2
        rw [ln]
        exact y4
  clear hX
  suffices hh : cQ0 c9 C n t Ps Pc M4 M28 from ⟨⟨(cQ0.pre st4 hh).e9, by rw [it 1 (by decide) (by decide), ei9, et4], hXC⟩, hr⟩
  have i15 : i32 v15 := by
    rw [e15]; split
    · exact ⟨by decide, by decide⟩
    · exact (y1 _ _).1
  have o20 : mOk M20 := by rw [e20]; exact mOk_UI y1 i15
  have o28 : mOk M28 := by
    rw [e28]; refine mOk_UI o20 ?_
    rw [e24]; split
    · exact ⟨by decide, by decide⟩
    · exact (o20 _ _).1
  have sb : 0 ≤ mI M9 (t + 72) 9 ∧ mI M9 (t + 72) 9 ≤ 512 * ((n + 1 : Nat) : Int) := by
    have a := g5.1
    have b := g5.2
    have c : mI M9 (t + 72) 9 ≤ mI M4 (t + 72) 9 + 512 := st.1
    have e : mI M4 (t + 72) 9 ≤ mI M9 (t + 72) 9 := st.2
    clear nd hj4 hw gz
    omega
  have rz' : 64 * mZ M28 + 2 * Cg ≤ 64 * mZ M4 + 2 * C1 := by rw [ft.2.2.2.2.1]; clear nd hj4; omega
  have rs' : mS M28 + 4 * Cg ≤ mS M4 + 4 * C1 := by rw [ft.2.2.2.2.2.1]; clear nd hj4; omega
  have fin : ∀ cn' cc' bc' : Nat, GR M9 (t + 62) cn' cc' bc' → (1 ≤ cn' → GS M9 (t + 62) (cn' - 1)) → (cn' = 0 → cc' = 0 ∧ bc' = 0) → cQ0 c9 C n t Ps Pc M4 M28 := fun cn' cc' bc' a1 a2 a3 => by
    have gm : Gm t U1 A1 B1 C1 cn' cc' bc' (n + 1) M9 := ⟨y2, y3, hU, y9, sb, a1, a2, a3⟩
    obtain ⟨Ps1, Pc1, w1, w2⟩ := hj4.game o28 f28 (by rw [ft.2.2.1, er9]) (by rw [it 1 (by decide) (by decide), ei9]) (by rw [it 6 (by decide) (by decide), ei9]) (by rw [it 18 (by decide) (by decide), ei9]) (gm.fit ft) ea eb (fun i hi _ => Or.inl (all4 i hi)) (fun u => absurd (all4 0 (by decide)) u) rs' rz' (fun _ => by rw [et4]; exact c6)
    exact w1.q w2
  by_cases c : r = 0
  · obtain ⟨cn1, cc1, bc1, c1, gq, gs⟩ := hr0 c
    exact fin cn1 cc1 bc1 (Or.inr ⟨c1, gq⟩) (fun _ => gs) (fun e => by omega)
  · exact fin 0 0 0 (Or.inl ⟨rfl, (hr1 c).1⟩) (fun u => by omega) (fun _ => ⟨rfl, rfl⟩)
end NDA
end
