/-! The class at rest: what is known is forgotten; explore. -/
section NDA
variable {G : mG} {d t x n g s b cn cc bc cn' cc' bc' T Kt N A B D Cw p O P K p' O' P' K' Ab Be Cm U Ag Bg Cg U1 Ag1 Bg1 Cg1 Ps Pc Ps1 Pc1 Ps2 Pc2 z : Nat} {M M' M1 : mM} {Z Y C C1 C2 S : Nat → Prop} {v v' R k Rn kn : Nat → Nat} {Ls L : List Nat} {W : Nat → Nat} {c9 c8 : tG9}
theorem stp.trans (h : stp C Ps Pc M C1 Ps1 Pc1 M1) (q : stp C1 Ps1 Pc1 M1 C2 Ps2 Pc2 M') : stp C Ps Pc M C2 Ps2 Pc2 M' := by
  obtain ⟨h1, h2, h3, h4⟩ := h
  obtain ⟨q1, q2, q3, q4⟩ := q
  have a := h1.1.1
  have b := q1.1.1
  refine ⟨h1.trans (q1.mono (fun x _ u => h2 x u)), fun x u => ?_, by omega, by omega⟩
  rcases q2 x u with w | w
  · rcases h2 x w with y | y
    · exact Or.inl y
    · exact Or.inr ⟨y.1, by omega⟩
  · exact Or.inr ⟨by omega, w.2⟩
theorem cQ0.pre (h : stp C Ps Pc M C1 Ps1 Pc1 M1) (q : cQ0 c9 C1 n t Ps1 Pc1 M1 M') : cQ0 c9 C n t Ps Pc M M' := by
  obtain ⟨C2, Ps2, Pc2, q1, q2⟩ := q
  exact ⟨C2, Ps2, Pc2, q1, h.trans q2⟩
/-- the ghost of what was explored is free here -/
theorem cQ0.e9 {e : tE9} (h : cQ0 c9 C n t Ps Pc M M') : cQ0 (c9.1, c9.2.1, c9.2.2.1, c9.2.2.2.1, c9.2.2.2.2.1, c9.2.2.2.2.2.1, e) C n t Ps Pc M M' := by
  obtain ⟨C', Ps', Pc', ⟨T, Kt, N, A, B, D, Cw, p, O, P, K, p', O', P', K', Ab, Be, Cm, U, Ag, Bg, Cg, cn, cc, bc, Ls, v, R, k, Z, h1, ⟨w1, w2, w3, w4, w5, w6, w7, w8⟩, h3⟩, h4⟩ := h
  exact ⟨C', Ps', Pc', ⟨T, Kt, N, A, B, D, Cw, p, O, P, K, p', O', P', K', Ab, Be, Cm, U, Ag, Bg, Cg, cn, cc, bc, Ls, v, R, k, Z, h1, ⟨w1, w2, w3, w4, w5, w6, w7, w8⟩, h3⟩, h4⟩
theorem cQ0.e8 {k : Int} (h : cQ0 c9 C n t Ps Pc M M') : cQ0 (c9.1, kn9 c9.2 k) C n t Ps Pc M M' := cQ0.e9 (e := ((c9.2.2.2.2.2.2.1.1, c9.2.2.2.2.2.2.1.2.1, k), c9.2.2.2.2.2.2.2)) h
/-- ints of other cells, and the Solver -/
theorem Sb.fi (h : Sb L W s g cn cc bc M) (f : FI S M M') (o : mOk M') (hS : ∀ x, S x → Oc L M x) (hg : ∀ i, i ≤ 9 → ¬ S (g + i)) : Sb L W s g cn cc bc M' := by
  obtain ⟨hsg, ⟨hF, hSK, hRs, hfw⟩, hSt, hgo⟩ := h
  obtain ⟨xx, -⟩ := f.nx (T := fun _ => False) (r := False) (z := s + 1) o hF (fun _ u => u.elim) hS hSK.z9
  refine ⟨hsg.fi f o hg, ⟨xx.nf, xx.sk hF hSK, ?_, hfw.fi f⟩, fun x hx => (hSt x hx).fi f, fun i hi => (hgo i hi).fi f⟩
  obtain ⟨r1, r2, r3, r4⟩ := hRs
  exact ⟨r1.fi f, fun i hi => (r2 i hi).fi f, fun i hi => by rw [f.2.2.1]; exact r3 i hi, r4⟩
/-- what is known is forgotten -/
theorem CJ.forget (hj : CJ c9 C n t Ps Pc T Kt N A B D Cw p O P K p' O' P' K' Ab Be Cm U Ag Bg Cg cn cc bc Ls v R k Z M) (o : mOk M') (f : FI (Sfg (v 0) (v 1) (v 3)) M M') (e0 : mI M' (v 0) 1 = 0) (e1 : mI M' (v 1) 1 = 0) (e3 : mI M' (v 3) 1 = 0) : CJ c9 C n t Ps Pc T Kt N A B D Cw p O P K p' O' P' K' Ab Be Cm U Ag Bg Cg cn cc bc Ls v R k Z M' ∧ stp C Ps Pc M C Ps Pc M' ∧ (∀ i, i < 4 → mI M' (v i) 1 = 0) ∧ mI M' t = mI M t := by
  obtain ⟨⟨z1, z2⟩, ⟨lt1, lt2⟩, -⟩ := hj.top
  obtain ⟨h1, h2, h3, h4, h5, h6, h7⟩ := hj
  obtain ⟨y1, y2, ⟨y3, y4, y5⟩, y6⟩ := yn_lo h5 h2
  obtain ⟨n1, n2, n3, n4, n5, n6, n7, n8⟩ := h4
  have sv : ∀ x, Sfg (v 0) (v 1) (v 3) x → ∃ i, i < 4 ∧ i ≠ 2 ∧ x = v i := fun x u => by
    rcases u with u | u | u
    · exact ⟨0, by decide, by decide, u⟩
    · exact ⟨1, by decide, by decide, u⟩
    · exact ⟨3, by decide, by decide, u⟩
  have fz : FC Z M M' := f.fc (fun x u => by
    obtain ⟨i, hi, -, e⟩ := sv x u
    rw [e]; exact (n2.2.2.1 i hi).1)
  have sS : ∀ x, Sfg (v 0) (v 1) (v 3) x → Oc Ls M x ∧ mK M x = 13 := fun x u => by
    obtain ⟨i, hi, -, e⟩ := sv x u
    rw [e]; exact ⟨(n1.2.1.1 i hi).1.2.2.2.2.1.1, (n1.2.1.1 i hi).1.1⟩
  have gS : ∀ i, i ≤ 9 → ¬ Sfg (v 0) (v 1) (v 3) (t + 62 + i) := fun i hi u => by
    obtain ⟨j, hj, -, e⟩ := sv _ u
    exact (y2 (t + 62 + i) (by omega) (by omega)) (Or.inl (by rw [e]; exact (n2.2.2.1 j hj).1))
  have v2 : mI M' (v 2) = mI M (v 2) := f.2.2.2.2.2.2 _ (fun u => by
    obtain ⟨j, hj, j2, e⟩ := sv _ u
    exact (n1.2.1.2 2 j (by decide) hj (fun e => j2 e.symm)).2.1 e)
  have all : ∀ i, i < 4 → mI M' (v i) 1 = 0 := fun i hi => by
    have : i = 0 ∨ i = 1 ∨ i = 2 ∨ i = 3 := by omega
    rcases this with e | e | e | e <;> subst e
    · exact e0
    · exact e1
    · rw [v2]; exact n4
    · exact e3
  have N := n1.fi f o (fun x u => ⟨(sS x u).1, by rw [(sS x u).2]; decide⟩) (n1.1.fi f o (fun x u => (sS x u).1) gS) (fun j hj _ => Or.inr (all j hj))
  obtain ⟨-, er, ei⟩ := (fz.2 t lt1).2.2 z1
  have sp := fz.sm lt2 z2
  have zz : mZ M' = mZ M ∧ mS M' = mS M := ⟨f.2.2.2.2.1, f.2.2.2.2.2.1⟩
  have pe : Pn Ls k M' = Pn Ls k M ∧ Qn Ls k M' = Qn Ls k M := pn_cg (fun a _ => by unfold cp; rw [f.2.2.1, f.2.1])
  have c' : Cnu Z Ls (t + 85) v R k M' := ⟨n2.1, fun a ha => by rw [f.2.2.1]; exact n2.2.1 a ha, fun i hi => by rw [f.2.2.1]; exact n2.2.2.1 i hi, n2.2.2.2.1, n2.2.2.2.2.1.fi f, n2.2.2.2.2.2.fi f⟩
  have fy := fz.yn (t := t)
  refine ⟨⟨o, h2.fc o fy y1 y3 y4 y5 (fun i _ => by rw [er]) (by rw [ei]) (by rw [ei]), h3.fc fy y2, ⟨N, c', n3.cg (fz.2 t lt1).1 (fun i _ => by rw [er]) fz.1.1, all 2 (by decide), fun u => absurd e0 u, ⟨n6.1, n6.2.1.fi f, n6.2.2⟩, by unfold Pch; rw [sp.1, sp.2.1, sp.2.2.2]; exact n7, by rw [ei]; exact n8⟩, h5.mz fz.1.1, ?_, by rw [ei]; exact h7⟩, ⟨fz.mono (fun x _ u => y6 x (Or.inl u)), fun x u => Or.inl u, by rw [zz.2]; exact Nat.le_refl _, by rw [zz.1]; exact Nat.le_refl _⟩, all, ei⟩
  unfold Rmc
  rw [pe.1, pe.2]
  exact h6
theorem yg_t {M9 M20 M28 : mM} {a b : Int} (f : FC (Yg t Ag Bg) M M9) (e1 : M20 = mUI M9 t 7 a) (e2 : M28 = mUI M20 t 8 b) : FC (Yg t Ag Bg) M M28 ∧ FI (fun x => x = t) M9 M28 ∧ ∀ i, i ≠ 7 → i ≠ 8 → mI M28 t i = mI M9 t i := by
  have f1 : FI (fun x => x = t) M9 M20 := by rw [e1]; exact FI.ui rfl
  have f2 : FI (fun x => x = t) M20 M28 := by rw [e2]; exact FI.ui rfl
  have ff := f1.trans f2
  refine ⟨f.trans (ff.fc (fun x u => Or.inl (Or.inl u))), ff, fun i a b => ?_⟩
  rw [e2, mI_UI, if_neg (fun u => b u.2), e1, mI_UI, if_neg (fun u => a u.2)]
/-- the game's side, when ints of the top change -/
theorem Gm.fit (h : Gm t U Ag Bg Cg cn cc bc n M) (f : FI (fun x => x = t) M M') : Gm t U Ag Bg Cg cn cc bc n M' := h.fc (f.fc (fun _ u => u)) (fun x a b u => by omega)
theorem c_CA_explore (hF : FMs G) (hn : n ≤ 1000) (h : CI c9 C n t Ps Pc M) (c6 : mI M t 6 ≠ 0) : Ci G y_CA_explore (d + 8) [vr t] M (fun r M' => i32 r ∧ (cQ0 (c9.1, exp9 c9.2) C n t Ps Pc M M' ∧ mI M' t 1 = mI M t 1 ∧ XC (exp9 c9.2) M' t) ∧ r = c9.2.2.2.2.2.1.1.1) := by
  obtain ⟨T, Kt, N, A, B, D, Cw, p, O, P, K, p', O', P', K', Ab, Be, Cm, U, Ag, Bg, Cg, cn, cc, bc, Ls, v, R, k, Z, hj⟩ := h
  have jn := hj.2.2.2.1
  obtain ⟨⟨z1, -⟩, -, -⟩ := hj.top
  have tv := jn.tv3
  have nt : ∀ i, i < 4 → t ≠ v i := fun i hi e => z1 (by rw [e]; exact (jn.2.1.2.2.1 i hi).1)
  refine k_CA_explore hj.1 ⟨jn.2.2.1.1, fun u => absurd u c6, fun _ => (s_CA_forget (d := d + 7) (cn := cn) hj.1 jn.2.2.1.1 ⟨tv.1, tv.2.1.tb, tv.2.2.1.tb, tv.2.2.2.tb⟩ ⟨nt 0 (by decide), nt 1 (by decide), nt 3 (by decide)⟩).mono (fun M4 q => ?_)⟩
  obtain ⟨o4, f4, q0, q1, q3⟩ := q
  obtain ⟨hj4, st4, all4, et4⟩ := hj.forget o4 f4 q0 q1 q3
  clear hj tv nt
  obtain ⟨-, ⟨lt1, lt2⟩, -⟩ := hj4.top
  have tr4 := hj4.2.2.2.1.2.2.1
  have r44 := hj4.2.1.1.2.2.1
  rw [tr4.2.1.1, r44]
  obtain ⟨V, F, ns, sf, ef, L, cnt, hw⟩ := hj4.2.1.2.2.2.2.2.2.1 (by rw [et4]; exact c6)
  obtain ⟨g1, g2, g3, g4, g5, g6, g7, g8⟩ := id hj4.2.2.1
  have nd := hj4.2.2.2.2.1.2.1
  have pp := hj4.2.1.2.2.2.2.2.1
  have na : O ≠ Ag ∧ O ≠ Bg ∧ P ≠ Ag ∧ P ≠ Bg := ⟨fun e => by rw [e] at nd; simp at nd, fun e => by rw [e] at nd; simp at nd, fun e => by rw [e] at nd; simp at nd, fun e => by rw [e] at nd; simp at nd⟩
  have gz : GZ M4 (t + 236) (t + 62) p O P K V F ns sf ef L cnt U Ag Bg Cg := ⟨o4, g1, g2, g3, hw, ⟨by clear nd hj4; omega, by clear nd hj4; omega, na⟩, g4, ⟨g5.1, by clear nd hj4; have e : mI M4 (t + 62 + 10) 9 ≤ 512 * (n : Int) := g5.2; omega⟩⟩
  have nga : ∀ y, y ≠ Ag → y ≠ Bg → ¬ ((t + 62 ≤ y ∧ y ≤ t + 84)) → ¬ gaS (t + 62) Ag Bg y := fun y y1 y2 y3 u => by unfold gaS at u; omega
  have oo := hw.1.2.2.2.1
  have oa : ¬ (t + 62 ≤ O ∧ O ≤ t + 84) ∧ ¬ (t + 62 ≤ P ∧ P ≤ t + 84) := by clear nd hj4 gz; omega
  obtain ⟨F0, ns0, sf0, ef0, W0, pl0, nq0, sm0, N0, n0, nms0, tg0, cms0, cx, px, eX⟩ := pgm_dc (g := t + 62) (Ab := Ag) (Be := Bg) (hj4.2.1.2.2.2.2.2.2.2.2 (by rw [et4]; exact c6)).2.2.2 hw (nga O na.1 na.2.1 oa.1) (nga P na.2.2.1 na.2.2.2 oa.2)
  have gx := x_Ga_discover (d := d) (FMx.of (G := G)) gz cx px
  rw [eX] at gx
  have x60 : ∀ x, x ∈ c9.2.2.2.2.2.1.2.2.2 → x.2.length ≤ 60 := fun x hx => by
    rw [← eX] at hx
    have a := exq_len 513 0 _ _ (fun x hx => absurd hx List.not_mem_nil) x hx
    have b := px.2.2.2.1
    have c := hw.2.2.2.2.1.2
    clear nd hj4 hw gz
    omega
  clear cx px eX
  refine ⟨o4, tr4.1, g1.1, gx.mono (fun r M9 q => ?_)⟩
  obtain ⟨q, hX⟩ := q
  have g60 : ∀ cn1 : Nat, r = 0 → mI M9 (t + 62) 0 = ((cn1 : Nat) : Int) → ∀ x, x ∈ xtm M9 (t + 62) cn1 → x.2.length ≤ 60 := fun cn1 r0 e1 => by
    rcases hX with ⟨y, -⟩ | ⟨-, -, cn2, ge, y⟩
    · exact absurd r0 y
    · have e2 := ge.1
      have ec : cn2 = cn1 := by
        rw [e1] at e2
        clear nd hj4 hw gz
        omega
      rw [← ec, y]
      exact x60
  have hr : r = c9.2.2.2.2.2.1.1.1 := by
    rcases hX with ⟨-, y, -⟩ | ⟨y0, y, -⟩
    · rw [y]
    · rw [y]; exact y0
  clear gx
  obtain ⟨ir, ⟨U1, w9, A1, B1, C1, hU, gy⟩, st, hr0, hr1⟩ := q
  obtain ⟨y1, y2, y3, y4, y5, y6, y7, ⟨fa, ⟨ea, eb⟩, rs, rz⟩, y9, y10⟩ := gy
  have fg : FC (Yg t Ag Bg) M4 M9 := fa.fc (fun x u => by unfold gaS at u; unfold Yg; omega) (fun x u => by unfold gaR at u; unfold Yg; omega)
  have tag : t ≠ Ag ∧ t ≠ Bg := by
    have := g2.2.2.2.2.2.1
    clear nd hj4
    omega
  have t9 := fa.2 t lt1
  have er9 : mR M9 t = mR M4 t := t9.2.2.2.1 (fun u => by unfold gaR at u; omega)
  have ei9 : mI M9 t = mI M4 t := t9.2.2.2.2 (fun u => by unfold gaS at u; omega)
  rw [er9, tr4.2.1.1]
  have kt9 : mK M9 t = 1 := by rw [t9.1]; exact tr4.1
  refine ⟨ir, y1, fun _ => ⟨kt9, y2.1⟩, fun v15 e15 => ⟨kt9, ?_, fun M20 e20 => ⟨fun _ => ?_, fun v24 e24 => ⟨?_, fun M28 e28 => ⟨ir, ?_⟩⟩⟩⟩⟩
  · rw [e15]; split
    · exact ⟨by decide, by decide⟩
    · exact (y1 _ _).1
  · rw [e20, mK_UI, mR_UI, er9, tr4.2.1.1]; exact y2.1
  · rw [e24]; split
    · exact ⟨by decide, by decide⟩
    · rw [e20, mI_UI]; split
      · rw [e15]; split
        · exact ⟨by decide, by decide⟩
        · exact (y1 _ _).1
      · exact (y1 _ _).1
  obtain ⟨f28, ft, it⟩ := yg_t fg e20 e28
  have e3 := hw.2.2.1.1
  have i3 := (hj4.2.1.2.2.2.2.2.2.2.2 (by rw [et4]; exact c6)).1
  have kv28 : mI M28 (mR M28 t 11) 1 = 0 := by
    have zv := hj4.vz
    have ap := hj4.2.2.2.2.1.1
    have lv : v 0 < mZ M4 := hj4.2.2.2.2.1.2.2.2.2 _ (hj4.2.2.2.2.1.2.2.2.1 _ (Or.inr (Or.inl zv)))
    have ng : ¬ gaS (t + 62) Ag Bg (v 0) := fun u => by
      refine ap (v 0) ?_ zv
      unfold gaS at u
      rcases u with u | u | u
      · exact Or.inl ⟨by clear nd hj4; omega, by clear nd hj4; omega⟩
      · rw [u]; exact Or.inr (Or.inr (by simp))
      · rw [u]; exact Or.inr (Or.inr (by simp))
    have nt9 : ¬ v 0 = t := fun e => hj4.top.1.1 (by rw [← e]; exact zv)
    rw [ft.2.2.1, er9, tr4.2.2.1.1, ft.2.2.2.2.2.2 (v 0) nt9, (fa.2 (v 0) lv).2.2.2.2 ng]
    exact all4 0 (by decide)
  have hXC : XC (exp9 c9.2) M28 t := by
    have g28 : ∀ i, i ≤ 9 → i ≠ 3 → mI M28 (t + 62 + i) = mI M9 (t + 62 + i) := fun i _ _ => ft.2.2.2.2.2.2 _ (show ¬ (t + 62 + i = t) by omega)
    have t7 : mI M28 t 7 = v15 := by rw [e28, mI_UI, if_neg (fun u => absurd u.2 (by decide)), e20, mI_UI, if_pos ⟨rfl, rfl⟩]
    have t8 : mI M28 t 8 = v24 := by rw [e28, mI_UI, if_pos ⟨rfl, rfl⟩]
    have g0 : mI M28 (t + 62) 0 = mI M9 (t + 62) 0 := by rw [ft.2.2.2.2.2.2 (t + 62) (show ¬ (t + 62 = t) by omega)]
    have k11 : mI M20 (mR M20 t 9) 11 = mI M9 (t + 62) 11 := by rw [e20, mR_UI, er9, tr4.2.1.1, mI_UI, if_neg (fun u => absurd u.1 (by omega))]
    unfold XC exp9 exG
    rcases hX with ⟨y0, y1, y2⟩ | ⟨y0, y1, cn2, ⟨y2, -, y3⟩, y4⟩
    · have n0 : c9.2.2.2.2.2.1.1.1 ≠ 0 := by rw [← hr]; exact y0
      rw [if_pos n0, t7, t8, e15, if_neg y0, e24, if_neg y0, k11, y2, g0, (hr1 y0).1, y1]
      exact ⟨rfl, ⟨rfl, kv28⟩, rfl, fun _ => rfl, fun u => absurd rfl u⟩
    · have n0 : ¬ (c9.2.2.2.2.2.1.1.1 ≠ 0) := fun u => u (by rw [← hr]; exact y0)
      have ln : c9.2.2.2.2.2.1.2.2.1.length = cn2 := by rw [← y3]; unfold Sm9; rw [List.length_map, List.length_range]
      obtain ⟨cn1, cc1, bc1, c1, gq, gs⟩ := hr0 y0
      have ec : cn2 = cn1 := by
        have := gq.1.1
        rw [y2] at this
        omega
      rw [if_neg n0, t7, t8, e15, if_pos y0, e24, if_pos y0, g0]
      refine ⟨rfl, ⟨rfl, kv28⟩, by rw [y2]; show ((cn2 : Nat) : Int) = ((c9.2.2.2.2.2.1.2.2.1.length : Nat) : Int); rw [ln], fun u => ?_, fun _ => XC.tb (M := M9) ⟨V, ?_, ?_, ?_⟩ g28⟩
      · have u' : c9.2.2.2.2.2.1.2.2.1 = [] := u
        rw [u'] at ln
        have : cn2 = 0 := ln.symm
        omega
      · show (V : Int) = c9.2.2.1
        rw [← i3, e3]
      · show Sm9 M9 (t + 62) V c9.2.2.2.2.2.1.2.2.1.length = c9.2.2.2.2.2.1.2.2.1
        rw [ln]
        exact y3
      · show xtm M9 (t + 62) c9.2.2.2.2.2.1.2.2.1.length = c9.2.2.2.2.2.1.2.2.2
        rw [ln]
        exact y4
  clear hX
  suffices hh : cQ0 c9 C n t Ps Pc M4 M28 from ⟨⟨(cQ0.pre st4 hh).e9, by rw [it 1 (by decide) (by decide), ei9, et4], hXC⟩, hr⟩
  have i15 : i32 v15 := by
    rw [e15]; split
    · exact ⟨by decide, by decide⟩
    · exact (y1 _ _).1
  have o20 : mOk M20 := by rw [e20]; exact mOk_UI y1 i15
  have o28 : mOk M28 := by
    rw [e28]; refine mOk_UI o20 ?_
    rw [e24]; split
    · exact ⟨by decide, by decide⟩
    · exact (o20 _ _).1
  have sb : 0 ≤ mI M9 (t + 72) 9 ∧ mI M9 (t + 72) 9 ≤ 512 * ((n + 1 : Nat) : Int) := by
    have a := g5.1
    have b := g5.2
    have c : mI M9 (t + 72) 9 ≤ mI M4 (t + 72) 9 + 512 := st.1
    have e : mI M4 (t + 72) 9 ≤ mI M9 (t + 72) 9 := st.2
    clear nd hj4 hw gz
    omega
  have rz' : 64 * mZ M28 + 2 * Cg ≤ 64 * mZ M4 + 2 * C1 := by rw [ft.2.2.2.2.1]; clear nd hj4; omega
  have rs' : mS M28 + 4 * Cg ≤ mS M4 + 4 * C1 := by rw [ft.2.2.2.2.2.1]; clear nd hj4; omega
  have fin : ∀ cn' cc' bc' : Nat, GR M9 (t + 62) cn' cc' bc' → (1 ≤ cn' → GS M9 (t + 62) (cn' - 1)) → GG0 M9 (t + 62) cn' cc' bc' → cQ0 c9 C n t Ps Pc M4 M28 := fun cn' cc' bc' a1 a2 a3 => by
    have gm : Gm t U1 A1 B1 C1 cn' cc' bc' (n + 1) M9 := ⟨y2, y3, hU, y9, sb, a1, a2, a3⟩
    obtain ⟨Ps1, Pc1, w1, w2⟩ := hj4.game o28 f28 (by rw [ft.2.2.1, er9]) (by rw [it 1 (by decide) (by decide), ei9]) (by rw [it 6 (by decide) (by decide), ei9]) (by rw [it 18 (by decide) (by decide), ei9]) (gm.fit ft) ea eb (fun i hi _ => Or.inl (all4 i hi)) (fun u => absurd (all4 0 (by decide)) u) rs' rz' (fun _ => by rw [et4]; exact c6)
    exact w1.q w2
  by_cases c : r = 0
  · obtain ⟨cn1, cc1, bc1, c1, gq, gs⟩ := hr0 c
    refine fin cn1 cc1 bc1 (Or.inr ⟨c1, gq⟩) (fun _ => gs) ⟨fun e => by omega, xtm_60 (g60 cn1 c gq.1.1) (fun j hj => ?_)⟩
    obtain ⟨x, y, f1, f2, f3, -⟩ := gq.2.2.2.2.2.2.2.2.1 j (by clear nd hj4; omega)
    exact ⟨x, y, f1, f2, f3⟩
  · exact fin 0 0 0 (Or.inl ⟨rfl, (hr1 c).1⟩) (fun u => by omega) ⟨fun _ => ⟨rfl, rfl⟩, fun j hj => absurd hj (by omega)⟩
end NDA
