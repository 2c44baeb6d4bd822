section
/-! The class at rest: compile. -/
section NDD
variable {G : mG} {d t x n cn cc bc T Kt N A B D Cw p O P K p' O' P' K' Ab Be Cm U Ag Bg Cg Ps Pc Ps1 Pc1 : Nat} {M M' M1 M2 : mM} {Z Y C : Nat → Prop} {v R k : Nat → Nat} {Ls : List Nat} {c9 c8 : tG9}
/-- the spare program becomes the text -/
theorem CJ.swp {i8 : Int × Int × Int × xR9 × tE9} {M24 M26 : mM} (im : mI M p' 3 = i8.1 ∧ mI M p' 7 = i8.2.1 ∧ mI M p' 12 = i8.2.2.1 ∧ Pgm i8.2.2.2.1 M p' O' P') (hj : CJ c9 C n t Ps Pc T Kt N A B D Cw p O P K p' O' P' K' Ab Be Cm U Ag Bg Cg cn cc bc Ls v R k Z M) (pw : ∃ (V F : Nat) (ns : Nat → Int) (sf ef : Nat → Nat) (L cnt : Nat), PW M (t + 236) p' O' P' K' V F ns sf ef L cnt) (e1 : M24 = mUR M t 4 (mR M t 5)) (e2 : M26 = mUR M24 t 5 (mR M t 4)) (e3 : M' = mUI M26 t 6 1) : CJ (c9.1, 1, i8) C n t Ps Pc T Kt N A B D Cw p' O' P' K' p O P K Ab Be Cm U Ag Bg Cg cn cc bc Ls v R k Z M' ∧ stp C Ps Pc M C Ps Pc M' := by
  obtain ⟨-, ⟨lt1, lt2⟩, -⟩ := hj.top
  have rr : ∀ x i, mR M' x i = if x = t ∧ i = 5 then mR M t 4 else if x = t ∧ i = 4 then mR M t 5 else mR M x i := fun x i => by rw [e3, mR_UI, e2, mR_UR, e1, mR_UR]
  have ii : ∀ x i, mI M' x i = if x = t ∧ i = 6 then 1 else mI M x i := fun x i => by rw [e3, mI_UI, e2, mI_UR, e1, mI_UR]
  have o : mOk M' := by rw [e3]; refine mOk_UI ?_ ⟨by decide, by decide⟩; rw [e2]; refine mOk_UR ?_; rw [e1]; exact mOk_UR hj.1
  have zz : mZ M' = mZ M ∧ mS M' = mS M := by rw [e3, mZ_UI, mS_UI, e2, mZ_UR, mS_UR, e1, mZ_UR, mS_UR]; exact ⟨rfl, rfl⟩
  have f : FC (fun x => x = t) M M' := by
    refine ⟨⟨by rw [zz.1]; exact Nat.le_refl _, by rw [zz.2]; exact Nat.le_refl _⟩, fun x _ => ⟨by rw [e3, mK_UI, e2, mK_UR, e1, mK_UR], by rw [e3, mN_UI, e2, mN_UR, e1, mN_UR], fun nx => ⟨by rw [e3, mL_UI, e2, mL_UR, e1, mL_UR], ?_, ?_⟩⟩⟩
    · funext i
      rw [rr, if_neg (fun u => nx u.1), if_neg (fun u => nx u.1)]
    · funext i
      rw [ii, if_neg (fun u => nx u.1)]
  have rt : ∀ i, i ≠ 4 → i ≠ 5 → mR M' t i = mR M t i := fun i a b => by rw [rr, if_neg (fun u => b u.2), if_neg (fun u => a u.2)]
  have it : ∀ i, i ≠ 6 → mI M' t i = mI M t i := fun i a => by rw [ii, if_neg (fun u => a u.2)]
  obtain ⟨a1, a2, a3, a4, a5, a6⟩ := hj.tonly o f zz (fun i hi => rt i (by omega) (by omega)) (it 18 (by decide)) (fun _ => by rw [ii, if_pos ⟨rfl, rfl⟩]; decide)
  obtain ⟨b1, b2, b3⟩ := top_lo hj.2.2.2.2.1 hj.2.1
  obtain ⟨-, -, -, -, n5, n6⟩ := nd_ne hj.2.2.2.2.1.2.1
  obtain ⟨w1, w2, w3, w4, w5, w6, w7, w8⟩ := hj.2.1
  obtain ⟨lp, lq⟩ := lo_p w6
  have l0 := lq 0 (by decide)
  rw [Nat.add_zero] at l0
  have n1 : ∀ y, y ≠ t → ¬ (fun x => x = t) y := fun y a b => a b
  have tz' := w4.fc o f (fun x a b => n1 x (by omega)) (n1 _ (by omega))
  obtain ⟨t1, t2, t3, t4, t5, t6, t7, t8, t9⟩ := tz'
  have pk := w5.fc f (n1 p (by omega))
  have o4 := t6.2.2.2.1
  obtain ⟨V, F, ns, sf, ef, L, cnt, hw⟩ := pw
  have hw' := hw.fc f (fun i hi => n1 _ (by omega)) (n1 _ (by omega)) (n1 _ (by omega))
  refine ⟨⟨o, ⟨⟨by rw [rt 2 (by decide) (by decide)]; exact w1.1, by rw [rt 3 (by decide) (by decide)]; exact w1.2.1, ?_, ?_⟩, w2.fc f b1 (rt 0 (by decide) (by decide)) (it 1 (by decide)), w3.fc f (n1 _ (by omega)), ⟨t1, t2, t3, t4, t5, pk, ⟨by omega, by omega⟩, ⟨n5.2.2.1, n5.2.2.2, n6.2.2.1, n6.2.2.2⟩, t9⟩, t6, ?_, fun _ => ⟨V, F, ns, sf, ef, L, cnt, hw'⟩, ?_⟩, a1, a2, a3.swp, ?_, a5⟩, a6⟩
  · rw [rr, if_neg (fun u => absurd u.2 (by decide)), if_pos ⟨rfl, rfl⟩]; exact w1.2.2.2
  · rw [rr, if_pos ⟨rfl, rfl⟩]; exact w1.2.2.1
  · rcases w6 with e | e
    · exact Or.inr ⟨e.2, e.1⟩
    · exact Or.inl ⟨e.2, e.1⟩
  · have pg' := im.2.2.2.fc f hw.1 (fun i hi => n1 _ (by omega)) (n1 _ (by omega)) (n1 _ (by omega))
    exact ⟨by rw [ii, if_pos ⟨rfl, rfl⟩], fun _ => ⟨by rw [ii, if_neg (fun u => absurd u.2 (by decide))]; exact im.1, by rw [ii, if_neg (fun u => absurd u.2 (by decide))]; exact im.2.1, by rw [ii, if_neg (fun u => absurd u.2 (by decide))]; exact im.2.2.1, pg'⟩⟩
  · unfold Rmc at a4 ⊢
    exact ⟨by omega, by omega, a4.2.2⟩
/-- the states are gone -/
theorem CJ.clr (hj : CJ c9 C n t Ps Pc T Kt N A B D Cw p O P K p' O' P' K' Ab Be Cm U Ag Bg Cg cn cc bc Ls v R k Z M) (o : mOk M') (f : FI (fun x => x = t + 62) M M') (e : ∀ i, mI M' (t + 62) i = if i = 13 then 0 else if i = 12 then 0 else if i = 0 then 0 else mI M (t + 62) i) : ∃ Ps1 Pc1, CJ c9 (Zn C M M') (n + 1) t Ps1 Pc1 T Kt N A B D Cw p O P K p' O' P' K' Ab Be Cm U Ag Bg Cg 0 0 0 Ls v R k Z M' ∧ stp C Ps Pc M (Zn C M M') Ps1 Pc1 M' := by
  have fc : FC (Yg t Ag Bg) M M' := f.fc (fun x u => by have u' : x = t + 62 := u; unfold Yg; omega)
  have ne : ∀ x, x ≠ t + 62 → mI M' x = mI M x := fun x hx => f.2.2.2.2.2.2 x hx
  have et := ne t (by omega)
  obtain ⟨g1, g2, g4, g5, g6, g7, g8, g9⟩ := hj.2.2.1.up
  exact hj.game o fc (by rw [f.2.2.1]) (by rw [et]) (by rw [et]) (by rw [et]) ⟨g1.eq2 (fun i _ => ⟨by rw [f.1], by rw [f.2.1]⟩) (fun i _ => by rw [f.2.2.1]), g2.fi f (by rw [ne _ (by omega)]), g4, by rw [ne (t + 77) (by omega), ne (t + 72) (by omega)]; exact g5, by rw [ne (t + 72) (by omega)]; exact g6, Or.inl ⟨rfl, by rw [e, if_neg (by decide), if_neg (by decide), if_pos rfl]⟩, fun u => absurd u (by decide), fun _ => ⟨rfl, rfl⟩, fun j hj => absurd hj (Nat.not_lt_zero _)⟩ (Or.inl rfl) (Or.inl rfl) (fun _ _ _ => Or.inr (Or.inr rfl)) (fun _ k hk => absurd hk (Nat.not_lt_zero _)) (by rw [f.2.2.2.2.2.1]; exact Nat.le_refl _) (by rw [f.2.2.2.2.1]; exact Nat.le_refl _) (fun u => absurd u (by decide))
/-- the tables are forgotten -/
theorem CJ.fgt (hj : CJ c9 C n t Ps Pc T Kt N A B D Cw p O P K p' O' P' K' Ab Be Cm U Ag Bg Cg cn cc bc Ls v R k Z M) : mK M t = 1 ∧ Cv G y_CA_forget d [vr t] M (fun M' => CJ c9 C n t Ps Pc T Kt N A B D Cw p O P K p' O' P' K' Ab Be Cm U Ag Bg Cg cn cc bc Ls v R k Z M' ∧ stp C Ps Pc M C Ps Pc M' ∧ mI M' t = mI M t ∧ mI M' (v 0) 1 = 0) := by
  have jn := hj.2.2.2.1
  obtain ⟨⟨z1, -⟩, -, -⟩ := hj.top
  have tv := jn.tv3
  have nt : ∀ i, i < 4 → t ≠ v i := fun i hi e => z1 (by rw [e]; exact (jn.2.1.2.2.1 i hi).1)
  refine ⟨jn.2.2.1.1, (s_CA_forget (d := d) (cn := cn) hj.1 jn.2.2.1.1 ⟨tv.1, tv.2.1.tb, tv.2.2.1.tb, tv.2.2.2.tb⟩ ⟨nt 0 (by decide), nt 1 (by decide), nt 3 (by decide)⟩).mono (fun M4 q => ?_)⟩
  obtain ⟨o4, f4, q0, q1, q3⟩ := q
  obtain ⟨a, b, -, e⟩ := hj.forget o4 f4 q0 q1 q3
  exact ⟨a, b, e, q0⟩
/-- what compile answers, out of the text's letters -/
def clR (c : Nat → Int) (N : Nat) (r p : Int) (k : Int × Int × Int × xR9) : Prop := ∃ (Mx : mM) (A B D n : Nat), spx kwx c N Mx A B D n ∧ ((r = 1 ∧ ∃ q9 : Nat, Rf (cwq kwx c N n) [50] 0 q9 ∧ p = pl0 c N n q9) ∨ ((∃ a, Rc (cwq kwx c N n) [50] 0 [] (a + 1)) ∧ ∃ sF : st9, sF = its9 (cwq kwx c N n) (pl0 c N n) (nq0 c N) (sm0 c N) (n + 1) 60 (n + 1) 0 s9c ∧ r = sF.2.2.1 ∧ (r ≠ 0 → p = sF.2.2.2) ∧ (r = 0 → k = ((sF.2.1.1 : Int), (sF.2.1.2.1 : Int), (sF.2.1.2.2.1 : Int), XpG (cwq kwx c N n, pl0 c N n, nq0 c N, sm0 c N, n + 1, sF.1, igs9 (cwq kwx c N n) (pl0 c N n) (nq0 c N) (sm0 c N) (n + 1) 60 (n + 1) 0 s9c g9c)))))
theorem spx.mv {c : Nat → Int} {nw : Nat} (h : spx kwx c N M A B D nw) (hA : mI M' A = mI M A) (hB : mI M' B = mI M B) (hD : mI M' D = mI M D) : spx kwx c N M' A B D nw := by
  unfold spx at h ⊢
  rw [hA, hB, hD]
  exact h
theorem c_CA_compile (hNS : NSx G kwx) (h : CI c9 C n t Ps Pc M) (hx : XC c9.2 M t) : Ci G y_CA_compile (d + 9) [vr t] M (fun r M' => i32 r ∧ ∃ c8 : tG9, (cQ0 c8 C n t Ps Pc M M' ∧ XC c8.2 M' t) ∧ mI M' t 1 = 0 ∧ c8.1 = c9.1 ∧ clR c9.1 (mI M t 1).toNat r (mI M' t 7) (c8.2.2.1, c8.2.2.2.1, c8.2.2.2.2.1, c8.2.2.2.2.2.1) ∧ ((r ≠ 0 ∧ c8.2 = plc c9.2 (mI M' t 7)) ∨ (r = 0 ∧ c8.2.1 = 1 ∧ c8.2.2.2.2.2.2 = ((-1, c9.2.2.2.2.2.2.1.2.1, 0), [], []) ∧ mI M' t 7 = -1))) := by
  obtain ⟨T, Kt, N, A, B, D, Cw, p, O, P, K, p', O', P', K', Ab, Be, Cm, U, Ag, Bg, Cg, cn, cc, bc, Ls, v, R, k, Z, hj⟩ := h
  have tp := hj.2.1.2.1
  have r2 := hj.2.1.1.1
  have lT : T < mZ M := tp.2.2.1.2.2
  have nT := (wo_lo hj.2.2.2.2.1 hj.2.1).2.1.1
  have tT : t ≠ T := tp.2.2.1.1
  have ch9 : ∀ j, j < N → mI M T j = c9.1 j := fun j hj => (tp.2.2.2.2 j hj).2
  have eN : (mI M t 1).toNat = N := by rw [tp.1.2.2]; exact Int.toNat_natCast _
  rw [eN]
  refine k_CA_compile hj.1 ?_
  rw [r2, tp.1.2.1, tp.1.2.2]
  refine ⟨tp.1.1, hj.2.1.2.2.1.1, (x_Wo_split (d := d) hNS hj.1 hj.2.1.2.2.1 tp.2.1.1 (by rw [tp.2.1.2]; exact tp.2.2.2.1.1) tp.2.2.2.1.2.1 tp.2.2.1.2.2).mono (fun M3 q => ?_)⟩
  obtain ⟨A1, B1, D1, Cw1, nw, o3, wf, wb, -, fa, gr, sp⟩ := q
  have sp3 := spx_cg ch9 sp
  have T3 : mI M3 T = mI M T := (fa.2 T lT).2.2.2.2 nT
  obtain ⟨Ps3, Pc3, j3, s3, -, ei3, eg3, ev3⟩ := hj.words o3 fa wb gr
  have r11 := hj.2.2.2.1.2.2.1.2.2.1.1
  have nvt : v 0 ≠ t := fun e => hj.top.1.1 (by rw [← e]; exact hj.vz)
  clear hj tp r2
  refine ⟨o3, j3.2.1.2.1.1.1, fun M7 e7 => ?_⟩
  have ev7 : mI M7 (v 0) = mI M (v 0) := by
    rw [← ev3, e7]
    funext j
    rw [mI_UI, if_neg (fun u => nvt u.1)]
  have x7 : (∀ i, i ≠ 1 → mI M7 t i = mI M t i) ∧ ∀ i, i ≤ 9 → mI M7 (t + 62 + i) = mI M (t + 62 + i) := by
    refine ⟨fun i hi => by rw [e7, mI_UI, if_neg (fun u => hi u.2), ei3], fun i hi => ?_⟩
    rw [← eg3 i hi, e7]
    funext j
    rw [mI_UI, if_neg (fun u => absurd u.1 (by omega))]
  obtain ⟨j7, s7, f7⟩ := j3.empty e7
  have pl := j3.2.2.2.2.1.2.2.1
  have wf7 := wf.fi1 f7 (show ¬ t + 2 = t by omega) (show ¬ A1 = t by have := pl.2.1; omega) (show ¬ B1 = t by have := pl.2.2.1; omega) (show ¬ D1 = t by have := pl.2.2.2; omega)
  have sp7 : spx kwx c9.1 N M7 A1 B1 D1 nw := sp3.mv (f7.2.2.2.2.2.2 A1 (show ¬ A1 = t by have := pl.2.1; omega)) (f7.2.2.2.2.2.2 B1 (show ¬ B1 = t by have := pl.2.2.1; omega)) (f7.2.2.2.2.2.2 D1 (show ¬ D1 = t by have := pl.2.2.2; omega))
  have ch7 : ∀ j, j < N → mI M7 T j = c9.1 j := fun j hj => by rw [f7.2.2.2.2.2.2 T (fun u => tT u.symm), T3]; exact ch9 j hj
  have s37 := s3.trans s7
  clear j3 s3 s7 pl
  have w7 := j7.2.1.1
  rw [w7.1, w7.2.1, w7.2.2.2]
  have wtq := wt_of ch7 sp7 wf7
  have nqo : NqO (cwq kwx c9.1 N nw) (nq0 c9.1 N) nw := fun k hk h2 => by
    have := wtq.2.1 k hk h2
    omega
  refine ⟨j7.2.1.2.2.2.1.2.2.1.1, (x_TR_translate (Nn := nw + 1) (d := d) FMx.of (Nat.le_refl _) j7.2.1.2.2.2.1 (tzw_of j7.2.2.2.2.1 j7.2.1) wf7 wtq).mono (fun x M10 q => ?_)⟩
  obtain ⟨q, tv⟩ := q
  obtain ⟨X9, ex9⟩ : ∃ X9 : xR9, X9 = XpG (cwq kwx c9.1 N nw, pl0 c9.1 N nw, nq0 c9.1 N, sm0 c9.1 N, nw + 1, (its9 (cwq kwx c9.1 N nw) (pl0 c9.1 N nw) (nq0 c9.1 N) (sm0 c9.1 N) (nw + 1) 60 (nw + 1) 0 s9c).1, igs9 (cwq kwx c9.1 N nw) (pl0 c9.1 N nw) (nq0 c9.1 N) (sm0 c9.1 N) (nw + 1) 60 (nw + 1) 0 s9c g9c) := ⟨_, rfl⟩
  obtain ⟨kk, kx⟩ : ∃ kk : Int × Int × Int × xR9 × tE9, (mI M10 p' 3, mI M10 p' 7, mI M10 p' 12, X9, ((-1, c9.2.2.2.2.2.2.1.2.1, 0), [], [])) = kk := ⟨_, rfl⟩
  have pg : x = 0 → Pgm X9 M10 p' (mR M10 p' 0) (mR M10 p' 1) := fun x0 => by
    rcases tv with ⟨e1, -⟩ | ⟨rc, ft, cs⟩
    · rw [e1] at x0
      exact absurd x0 (by decide)
    · obtain ⟨O1, P1, K1, Ab1, Be1, Cm1, V, F, ns, sf, ef, c, cnt, L, tx, -, -, -, ex, x11⟩ := id q
      have xr : x = (its9 (cwq kwx c9.1 N nw) (pl0 c9.1 N nw) (nq0 c9.1 N) (sm0 c9.1 N) (nw + 1) 60 (nw + 1) 0 s9c).2.2.1 := by rw [ex]; exact ft.1
      obtain ⟨⟨-, s3, s7, s12, s11, -, sv, sr⟩, cg⟩ := cs (xr.symm.trans x0)
      obtain ⟨b1, b2⟩ := tx.2.1.2.1
      rw [s7] at b1
      refine ⟨_, (its9 (cwq kwx c9.1 N nw) (pl0 c9.1 N nw) (nq0 c9.1 N) (sm0 c9.1 N) (nw + 1) 60 (nw + 1) 0 s9c).2.1, nw, nqo, cg, ⟨?_, ?_, s12, fun u => (x11 x0).1 (s11.mpr u)⟩, ex9⟩
      · show mI M10 p' 3 = ((vcn (its9 (cwq kwx c9.1 N nw) (pl0 c9.1 N nw) (nq0 c9.1 N) (sm0 c9.1 N) (nw + 1) 60 (nw + 1) 0 s9c).1 : Nat) : Int)
        rw [sv]
        exact s3
      · show rcn (its9 (cwq kwx c9.1 N nw) (pl0 c9.1 N nw) (nq0 c9.1 N) (sm0 c9.1 N) (nw + 1) 60 (nw + 1) 0 s9c).1 ≤ 60
        rw [sr]
        omega
  have cl : ∀ (p9 : Int) (k9 : Int × Int × Int × xR9), (x ≠ 0 → p9 = mI M10 (t + 7 + 1) 4) → (x = 0 → k9 = (kk.1, kk.2.1, kk.2.2.1, kk.2.2.2.1)) → clR c9.1 N x p9 k9 := fun p9 k9 hp9 hk9 => by
    refine ⟨M7, A1, B1, D1, nw, sp7, ?_⟩
    rcases tv with ⟨e1, q9, rf, -, pq⟩ | ⟨rc, ft, cs⟩
    · exact Or.inl ⟨e1, q9, rf, by rw [hp9 (by rw [e1]; decide)]; exact pq⟩
    · obtain ⟨O1, P1, K1, Ab1, Be1, Cm1, V, F, ns, sf, ef, c, cnt, L, tx, -, -, -, ex, -⟩ := id q
      have xr : x = (its9 (cwq kwx c9.1 N nw) (pl0 c9.1 N nw) (nq0 c9.1 N) (sm0 c9.1 N) (nw + 1) 60 (nw + 1) 0 s9c).2.2.1 := by rw [ex]; exact ft.1
      refine Or.inr ⟨rc, _, rfl, xr, fun x1 => by rw [hp9 x1]; exact ft.2 (by rw [← xr]; exact x1), fun x0 => ?_⟩
      obtain ⟨⟨-, s3, s7, s12, -⟩, -⟩ := cs (xr.symm.trans x0)
      rw [hk9 x0, ← kx, s3, s7, s12, ex9]
  clear tv sp sp3 sp7 ch7 ch9 wtq nqo
  have ix : i32 x := by
    obtain ⟨O1, P1, K1, Ab1, Be1, Cm1, V, F, ns, sf, ef, c, cnt, L, tx, -, -, -, ex, -⟩ := id q
    rw [ex]; exact (tx.1.1.1 _ _).1
  obtain ⟨O1, P1, K1, Ab1, Be1, Cm1, Ps10, Pc10, j10, s10, pw, ei10, eg10, ev10⟩ := j7.trl q
  have ev := ev10.trans ev7
  have x10 : (∀ i, i ≠ 1 → mI M10 t i = mI M t i) ∧ ∀ i, i ≤ 9 → mI M10 (t + 62 + i) = mI M (t + 62 + i) := ⟨fun i hi => by rw [ei10]; exact x7.1 i hi, fun i hi => by rw [eg10 i hi]; exact x7.2 i hi⟩
  have s110 := s37.trans s10
  clear j7 s10 s37 wf7 q
  have k10 := j10.2.1.2.1.1.1
  refine ⟨ix, j10.1, fun x0 => ⟨k10, fun M19 e19 => ⟨fun _ M24 e24 M26 e26 M28 e28 => ?_, fun u => absurd x0 u⟩⟩, fun x1 => ⟨k10, ?_⟩⟩
  · obtain ⟨j19, s19⟩ := j10.tint (j := 7) (a := -1) ⟨by decide, by decide, by decide⟩ ⟨by decide, by decide⟩ e19
    have f19 : FI (fun x => x = t) M10 M19 := by rw [e19]; exact FI.ui rfl
    obtain ⟨V, F, ns, sf, ef, L, cnt, hw⟩ := pw x0
    obtain ⟨q1, q2, -⟩ := tz_pl j10.2.1
    have lp := (lo_p j10.2.1.2.2.2.2.2.1).1
    have n1 : ∀ y, y ≠ t → ¬ (fun x => x = t) y := fun y a b => a b
    have ep : mI M19 p' = mI M10 p' := f19.2.2.2.2.2.2 p' (n1 _ (by clear j10 j19; omega))
    have hw' := hw.fc (f19.fc (Z := fun x => x = t) (fun _ u => u)) (fun i hi => n1 _ (by clear j10 j19; omega)) (n1 _ (by clear j10 j19; omega)) (n1 _ (by clear j10 j19; omega))
    have pg19 : Pgm X9 M19 p' O1 P1 := by
      have := pg x0
      rw [hw.1.2.1.1, hw.1.2.1.2] at this
      exact this.fc (f19.fc (Z := fun x => x = t) (fun _ u => u)) hw.1 (fun i hi => n1 _ (by clear j10 j19; omega)) (n1 _ (by clear j10 j19; omega)) (n1 _ (by clear j10 j19; omega))
    obtain ⟨j28, s28⟩ := j19.swp (i8 := kk) (by rw [ep, ← kx]; exact ⟨rfl, rfl, rfl, pg19⟩) ⟨V, F, ns, sf, ef, L, cnt, hw'⟩ e24 e26 e28
    clear j10 j19 hw hw' pw
    have tr := j28.2.2.2.1.2.2.1
    rw [tr.2.1.1]
    refine ⟨j28.2.2.1.1.1, (s_Ga_clear j28.1 j28.2.2.1.1.1).mono (fun M31 q => ?_)⟩
    obtain ⟨Ps31, Pc31, j31, s31⟩ := j28.clr q.1 q.2.1 q.2.2
    have t31 : ∀ i, i ≠ 6 → mI M31 t i = mI M19 t i := fun i hi => by rw [q.2.1.2.2.2.2.2.2 t (show ¬ (t = t + 62) by omega), e28, mI_UI, if_neg (fun u => hi u.2), e26, mI_UR, e24, mI_UR]
    obtain ⟨a1, a2⟩ := j31.fgt (G := G) (d := d + 8)
    refine ⟨q.1, a1, a2.mono (fun M35 w => ?_)⟩
    obtain ⟨w1, w2, w3, w4⟩ := w
    have t7 : mI M35 t 7 = -1 := by rw [w3, t31 7 (by decide), e19, mI_UI, if_pos ⟨rfl, rfl⟩]
    have t8 : mI M35 t 8 = c9.2.2.2.2.2.2.1.2.1 := by rw [w3, t31 8 (by decide), e19, mI_UI, if_neg (fun u => absurd u.2 (by decide)), x10.1 8 (by decide)]; exact hx.2.1.1
    have g0 : mI M35 (t + 62) 0 = 0 := w1.top.2.2
    refine ⟨w1.1, ix, (c9.1, 1, kk), ⟨w1.q (s110.trans (s19.trans (s28.trans (s31.trans w2)))), ?_⟩, by rw [w1.2.1.2.1.1.2.2]; rfl, rfl, cl _ _ (fun u => absurd x0 u) (fun _ => rfl), Or.inr ⟨x0, rfl, by rw [← kx], t7⟩⟩
    show XC (1, kk) M35 t
    unfold XC
    rw [← kx]
    exact ⟨t7, ⟨t8, by rw [w1.2.2.2.1.2.2.1.2.2.1.1]; exact w4⟩, g0, fun _ => rfl, fun u => absurd rfl u⟩
  · have tz := j10.2.1.2.2.2.1
    have w10 := j10.2.1.1
    rw [w10.2.1]
    refine ⟨tz.2.2.1.1, k_TR_faultPlace j10.1 ?_⟩
    rw [tz.2.2.1.2.1]
    refine ⟨tz.2.2.1.1, tz.2.1.1, (j10.1 _ _).1, j10.1, k10, fun M44 e44 => ⟨fun u => absurd u x1, fun _ => ⟨ix, ?_⟩⟩⟩
    obtain ⟨j44, s44⟩ := j10.tint (j := 7) ⟨by decide, by decide, by decide⟩ (j10.1 _ _).1 e44
    have t7 : mI M44 t 7 = mI M10 (t + 7 + 1) 4 := by rw [e44, mI_UI, if_pos ⟨rfl, rfl⟩]
    have t8 : mI M44 t 8 = mI M t 8 := by rw [e44, mI_UI, if_neg (fun u => absurd u.2 (by decide))]; exact x10.1 8 (by decide)
    have tg : ∀ i, i ≤ 9 → mI M44 (t + 62 + i) = mI M (t + 62 + i) := fun i hi => by
      rw [← x10.2 i hi, e44]
      funext j
      rw [mI_UI, if_neg (fun u => absurd u.1 (by omega))]
    have g0 := tg 0 (by decide)
    rw [Nat.add_zero] at g0
    obtain ⟨x1', x2', x3', x4', x5'⟩ := hx
    have k44 : mI M44 (mR M44 t 11) 1 = c9.2.2.2.2.2.2.1.2.2 := by
      rw [j44.2.2.2.1.2.2.1.2.2.1.1, e44, mI_UI, if_neg (fun u => nvt u.1), ev, ← r11]
      exact x2'.2
    exact ⟨(c9.1, plc c9.2 (mI M44 t 7)), ⟨(j44.up.q (s110.trans s44)).e9, rfl, ⟨by rw [t8]; exact x2'.1, k44⟩, by rw [g0]; exact x3', x4', fun u => XC.tb (x5' u) (fun i hi _ => tg i hi)⟩, by rw [j44.2.1.2.1.1.2.2]; rfl, rfl, cl _ _ (fun _ => t7) (fun u => absurd u x1), Or.inl ⟨x1, rfl⟩⟩
end NDD
end
section
/-! Class and reference side by side: each is left alone by the other's steps. -/
section NDE
variable {Nt9 : tP9} {G : mG} {y : mY} {d t a x n p Ps Pc : Nat} {As : List mV} {M M' : mM} {Y C : Nat → Prop} {c9 c8 : tG9}
theorem Ci.mz {Q : Int → mM → Prop} (h : Ci G y d As M Q) : Ci G y d As M (fun r M' => Q r M' ∧ mZ M ≤ mZ M' ∧ mS M ≤ mS M') := by
  obtain ⟨r, M1, h1, x, e, h2⟩ := h
  exact ⟨r, M1, h1, x, e, h2, h1.1⟩
theorem Cv.mz {Q : mM → Prop} (h : Cv G y d As M Q) : Cv G y d As M (fun M' => Q M' ∧ mZ M ≤ mZ M' ∧ mS M ≤ mS M') := by
  obtain ⟨r, M1, h1, e, h2⟩ := h
  exact ⟨r, M1, h1, e, h2, h1.1⟩
theorem FR.fc (h : FR M a M') (hs : mS M ≤ mS M') : FC (own M a) M M' := by
  obtain ⟨h1, h2, h3, -⟩ := h
  exact ⟨⟨h1, hs⟩, fun x hx => ⟨(h2 x hx).1, (h2 x hx).2, fun nz => ⟨(h3 x hx nz).2.2, (h3 x hx nz).1, (h3 x hx nz).2.1⟩⟩⟩
theorem Nu.sm (h : Nu M p) (hp : Sm M M' p) (hA : Sm M M' (mR M p 0)) (hz : mZ M ≤ mZ M') : Nu M' p ∧ sameN M M' p := by
  obtain ⟨h1, h2, ⟨h3, h4⟩, h5, h6⟩ := h
  have ec : cp M' p = cp M p := by unfold cp; rw [hp.2.2.1, hA.2.1]
  exact ⟨⟨by rw [hp.1]; exact h1, by rw [hp.2.2.1, hA.1]; exact h2, ⟨by omega, by rw [hp.2.2.1]; omega⟩, by rw [hp.2.2.2, ec]; exact h5, by rw [ec]; exact h6⟩, by unfold ln; rw [hp.2.2.2], fun j => by unfold nt; rw [hp.2.2.1, hA.2.2.2], ec, hp.2.2.1⟩
/-- the reference is left alone -/
theorem RI.off (h : RI Nt9 M a) (o : mOk M') (f : FC Y M M') (hY : ∀ x, Y x → ¬ own M a x) : RI Nt9 M' a ∧ (∀ q, q ∈ nums a → sameN M M' q) ∧ (∀ x, own M' a x ↔ own M a x) := by
  have hxe := h.xe
  obtain ⟨-, w, ⟨l1, l2⟩, rx⟩ := h.r0
  have hz := f.1.1
  have zz := w.2.2.2
  have no : ∀ x, own M a x → ¬ Y x := fun x u v => hY x v u
  have sm : ∀ x, a ≤ x → x ≤ a + 21191 → Sm M M' x ∧ mL M' x = mL M x := fun x b c => ⟨f.sm (by omega) (no x (Or.inl ⟨b, c⟩)), ((f.2 x (by omega)).2.2 (no x (Or.inl ⟨b, c⟩))).1⟩
  have hin : ∀ q, q ∈ nums a → a ≤ q ∧ q ≤ a + 21191 := fun q hq => by have := nums_in hq; omega
  have nus : ∀ q, q ∈ nums a → Nu M' q ∧ sameN M M' q := fun q hq => (w.nu hq).sm (sm q (hin q hq).1 (hin q hq).2).1 (f.sm (w.nu hq).2.2.1.2 (no _ (Or.inr ⟨q, hq, rfl⟩))) hz
  have s0 := sm a (by omega) (by omega)
  have r9 : mR M' a = mR M a := s0.1.2.2.1
  have w' : Wd M' a := by
    refine ⟨pl_same zz (fun x hx => (f.2 x hx).1) (fun x hx => (f.2 x hx).2.1) r9 (sm (a + 13) (by omega) (by omega)).1.2.2.1 (sm (a + 49) (by omega) (by omega)).1.2.2.1 w.1, fun q hq => ⟨(nus q hq).1, ?_, ?_⟩, fun p q hp hq hne => ?_, by omega⟩
    · rw [(nus q hq).2.2.2.2]; exact (w.arr hq).2
    · rw [(nus q hq).2.2.2.1]; exact w.bd hq
    · rw [(nus p hp).2.2.2.2, (nus q hq).2.2.2.2]; exact w.2.2.1 p q hp hq hne
  have hg := w.g9
  have sl9 : ∀ q, q ∈ nums a → sl M M' q := fun q hq => (nus q hq).2.sl
  have xe : xeF M M' a := ⟨by rw [s0.1.2.2.2]; exact ⟨rfl, rfl, rfl⟩, ⟨(sm _ (by omega) (by omega)).1.2.2.2, (sm _ (by omega) (by omega)).1.2.2.2, (sm _ (by omega) (by omega)).1.2.2.2, (sm _ (by omega) (by omega)).1.2.2.2, (sm _ (by omega) (by omega)).1.2.2.2⟩, ⟨(sm _ (by omega) (by omega)).2, (sm _ (by omega) (by omega)).2⟩, sl9 _ (nums_o (by decide)), sl9 _ (nums_o (by decide)), sl9 _ (nums_o (by decide)), sl9 _ (nums_o (by decide)), by rw [(sm (a + 117) (by omega) (by omega)).1.2.2.2], fun i p q => (sm (a + 117 + i) (by omega) (by omega)).1.2.2.2⟩
  have ra : RA M M' a (mR M a 9) := by
    refine ⟨by rw [s0.1.2.2.2]; exact ⟨rfl, rfl, rfl⟩, fun x x1 x2 => ⟨(sm x (by omega) (by omega)).1.1, (sm x (by omega) (by omega)).1.2.1, (sm x (by omega) (by omega)).1.2.2.1, (sm x (by omega) (by omega)).1.2.2.2⟩, ⟨sl9 _ (nums_o (by decide)), sl9 _ (nums_o (by decide)), sl9 _ (nums_o (by decide))⟩, ⟨(sm _ (by omega) (by omega)).1.2.2.2, (sm _ (by omega) (by omega)).1.2.2.2⟩, fun q hq => sl9 q (gL9_in hg hq), (sm _ (by rcases hg with e | e <;> rw [e] <;> omega) (by rcases hg with e | e <;> rw [e] <;> omega)).1.2.2.2, fun i i1 i2 => ?_, xe⟩
    have := sm (mR M a 9 + i) (by rcases hg with e | e <;> rw [e] <;> omega) (by rcases hg with e | e <;> rw [e] <;> omega)
    exact ⟨this.1.2.2.2, this.2⟩
  refine ⟨RI0.ri ⟨o, w', ?_, by rw [r9]; exact rx.ra ra⟩ (hxe.xe xe (by rw [s0.1.2.2.2]) (by rw [(sm (a + 117 + 30) (by omega) (by omega)).1.2.2.2])), fun q hq => (nus q hq).2, fun x => ?_⟩
  · rw [r9]; exact ⟨l1.sm (nus _ w.tape.1).2, by rw [(nus _ w.tape.2.1).2.1]; exact l2⟩
  · unfold own
    constructor
    · rintro (u | ⟨q, hq, u⟩)
      · exact Or.inl u
      · exact Or.inr ⟨q, hq, by rw [u, (nus q hq).2.2.2.2]⟩
    · rintro (u | ⟨q, hq, u⟩)
      · exact Or.inl u
      · exact Or.inr ⟨q, hq, by rw [u, (nus q hq).2.2.2.2]⟩
/-- the class is left alone -/
theorem CI.off (h : CI c9 C n t Ps Pc M) (o : mOk M') (f : FC Y M M') (hY : ∀ x, Y x → ¬ C x) : CI c9 C n t Ps Pc M' ∧ mI M' t = mI M t ∧ mR M' t = mR M t := by
  obtain ⟨T, Kt, N, A, B, D, Cw, p, O, P, K, p', O', P', K', Ab, Be, Cm, U, Ag, Bg, Cg, cn, cc, bc, Ls, v, R, k, Z, hj⟩ := h
  obtain ⟨-, ⟨lt1, lt2⟩, -⟩ := hj.top
  obtain ⟨h1, h2, h3, h4, h5, h6, h7⟩ := hj
  obtain ⟨c1, c2, c3⟩ := h5.oc
  have no : ∀ x, C x → ¬ Y x := fun x u v => hY x v u
  obtain ⟨-, er, ei⟩ := (f.2 t lt1).2.2 (no t (c1 t (by omega) (by omega)).1)
  obtain ⟨ns, pe, qe⟩ := h4.fc o f (fun x u w => no x (c2 x w).1 u) (fun i hi => no _ (c1 _ (by omega) (by omega)).1) (no _ (c1 _ (by omega) (by omega)).1) lt2 (fun i _ => by rw [er]) (by rw [ei])
  refine ⟨⟨T, Kt, N, A, B, D, Cw, p, O, P, K, p', O', P', K', Ab, Be, Cm, U, Ag, Bg, Cg, cn, cc, bc, Ls, v, R, k, Z, o, h2.fc o f (fun x a b => no x (c1 x (by omega) (by omega)).1) (no T (c3 T (by simp)).1) (no O (c3 O (by simp)).1) (no P (c3 P (by simp)).1) (fun i _ => by rw [er]) (by rw [ei]) (by rw [ei]), h3.fc f (fun x a b => no x (c1 x (by omega) (by omega)).1), ns, h5.mz f.1.1, ?_, by rw [ei]; exact h7⟩, ei, er⟩
  unfold Rmc
  rw [pe, qe]
  exact h6
theorem tE.off {Nn : tP9} (h : CI c9 C n t Ps Pc M) (f : FC Y M M') (hY : ∀ x, Y x → ¬ C x) (e : tE Nn M t) : tE Nn M' t := by
  obtain ⟨T, Kt, N, A, B, D, Cw, p, O, P, K, p', O', P', K', Ab, Be, Cm, U, Ag, Bg, Cg, cn, cc, bc, Ls, v, R, k, Z, hj⟩ := h
  obtain ⟨c1, c2, c3⟩ := hj.2.2.2.2.1.oc
  have s : ∀ x, t ≤ x → x < t + 236 → mI M' x = mI M x := fun x a b => (f.sm (c1 x a b).2 (fun u => hY x u (c1 x a b).1)).2.2.2
  have st := s t (Nat.le_refl _) (by omega)
  have er := (f.sm (c1 t (Nat.le_refl _) (by omega)).2 (fun u => hY t u (c1 t (Nat.le_refl _) (by omega)).1)).2.2.1
  exact sE.trans ⟨by rw [st], by rw [st], by rw [st], fun i hi _ => s _ (by omega) (by omega), hj.knf (by rw [er]) (by rw [hj.vfc f (fun x u w => hY x u (c2 x w).1)])⟩ e
end NDE
end
section
/-! The room that class and reference may take. -/
section NDF
variable {t n a Ps Pc : Nat} {M : mM} {C : Nat → Prop} {Nt9 : tP9} {c9 c8 : tG9}
theorem psum_le {f g : Nat → Nat} : ∀ (l : List Nat), (∀ a, a ∈ l → f a ≤ g a) → psum f l ≤ psum g l
  | [], _ => Nat.le_refl _
  | x :: l, h => by
    show f x + psum f l ≤ g x + psum g l
    exact Nat.add_le_add (h x List.mem_cons_self) (psum_le l (fun a ha => h a (List.mem_cons_of_mem _ ha)))
theorem psum_lin {f : Nat → Nat} {c e : Nat} : ∀ (l : List Nat), psum (fun a => c + e * f a) l = c * l.length + e * psum f l
  | [] => by show 0 = c * 0 + e * 0; rw [Nat.mul_zero, Nat.mul_zero]
  | x :: l => by
    show c + e * f x + psum (fun a => c + e * f a) l = c * (l.length + 1) + e * (f x + psum f l)
    rw [psum_lin l, Nat.mul_add, Nat.mul_add, Nat.mul_one]
    omega
theorem psum_one1 {x : Nat} : ∀ (l : List Nat), l.Nodup → psum (fun a => if a = x then 1 else 0) l ≤ 1
  | [], _ => Nat.zero_le _
  | y :: l, h => by
    obtain ⟨h1, h2⟩ := List.nodup_cons.1 h
    show (if y = x then 1 else 0) + psum (fun a => if a = x then 1 else 0) l ≤ 1
    by_cases c : y = x
    · rw [if_pos c]
      have : psum (fun a => if a = x then 1 else 0) l ≤ psum (fun _ => 0) l := psum_le l (fun a ha => by
        show (if a = x then 1 else 0) ≤ 0
        rw [if_neg (fun e => h1 (by rw [c, ← e]; exact ha))]
        exact Nat.le_refl _)
      have z : psum (fun _ => 0) l = 0 := by
        have := psum_lin (f := fun _ => 0) (c := 0) (e := 0) l
        simpa using this
      omega
    · rw [if_neg c, Nat.zero_add]
      exact psum_one1 l h2
theorem psum_ind : ∀ (m : Nat) (l : List Nat), l.Nodup → psum (fun a => if t ≤ a ∧ a < t + m then 1 else 0) l ≤ m
  | 0, l, _ => by
    have : psum (fun a => if t ≤ a ∧ a < t + 0 then 1 else 0) l ≤ psum (fun _ => 0) l := psum_le l (fun a _ => by
      show (if t ≤ a ∧ a < t + 0 then 1 else 0) ≤ 0
      rw [if_neg (by omega)]
      exact Nat.le_refl _)
    have z : psum (fun _ => 0) l = 0 := by
      have := psum_lin (f := fun _ => 0) (c := 0) (e := 0) l
      simpa using this
    omega
  | m + 1, l, h => by
    have h1 := psum_ind m l h
    have h2 := psum_one1 (x := t + m) l h
    have e : ∀ l : List Nat, psum (fun a => if t ≤ a ∧ a < t + (m + 1) then 1 else 0) l ≤ psum (fun a => if t ≤ a ∧ a < t + m then 1 else 0) l + psum (fun a => if a = t + m then 1 else 0) l := fun l => by
      induction l with
      | nil => exact Nat.le_refl _
      | cons x l ih =>
        show (if t ≤ x ∧ x < t + (m + 1) then 1 else 0) + psum (fun a => if t ≤ a ∧ a < t + (m + 1) then 1 else 0) l ≤ ((if t ≤ x ∧ x < t + m then 1 else 0) + psum (fun a => if t ≤ a ∧ a < t + m then 1 else 0) l) + ((if x = t + m then 1 else 0) + psum (fun a => if a = t + m then 1 else 0) l)
        have : (if t ≤ x ∧ x < t + (m + 1) then 1 else 0) ≤ (if t ≤ x ∧ x < t + m then 1 else 0) + (if x = t + m then 1 else 0) := by
          split <;> split <;> split <;> omega
        omega
    have := e l
    omega
theorem CI.bd (h : CI c9 C n t Ps Pc M) (hC : ∀ x, C x → t ≤ x) : Ps ≤ 1448000 ∧ Pc ≤ 5300000 := by
  obtain ⟨T, Kt, N, A, B, D, Cw, p, O, P, K, p', O', P', K', Ab, Be, Cm, U, Ag, Bg, Cg, cn, cc, bc, Ls, v, R, k, Z, h1, h2, h3, h4, h5, h6, h7⟩ := h
  have b1 := h2.2.1.2.2.2.1.2.2.2
  have b2 := h2.2.2.1.2.2.2.2.2.2.2
  have b3 := h2.2.2.2.2.1.2.2.2.2.2.1.2
  have b4 := h2.2.2.2.1.2.2.2.2.2.1.2.2.2.2.2.1.2
  have b5 := h2.2.2.2.1.2.2.2.2.1.2.2.2.2.2.2.2.2
  have b6 := h3.2.1.2.2.2.2.2.2.2.2
  have hF := h4.1.1.2.1.1
  have k4 : ∀ i, i < 4 → k i ≤ 512 := fun i hi => (h4.1.2.1.1 i hi).2.2.2.1
  have ge : ∀ x, x ∈ Ls → t ≤ x := fun x hx => hC x (h5.oc.2.1 x (h4.2.1.2.1 x hx).1).1
  have w2 : ∀ x, x ∈ Ls → cp M x ≤ 34 + 566 * (if t ≤ x ∧ x < t + 236 then 1 else 0) := fun x hx => by
    have a := (hF.2.1 x hx).2.1
    have g := ge x hx
    unfold Wt at a
    by_cases c : x < t + 236
    · rw [if_pos c] at a
      rw [if_pos ⟨g, c⟩]
      omega
    · rw [if_neg c] at a
      rw [if_neg (fun u => c u.2)]
      omega
  have w4 : ∀ x, x ∈ Ls → cp M x / 4 ≤ 8 + 142 * (if t ≤ x ∧ x < t + 236 then 1 else 0) := fun x hx => by
    have a := w2 x hx
    by_cases c : t ≤ x ∧ x < t + 236
    · rw [if_pos c] at a ⊢
      omega
    · rw [if_neg c] at a ⊢
      omega
  have i1 := psum_ind (t := t) 236 Ls hF.1
  have s1 := psum_le Ls w2
  have s2 := psum_le (f := fun p => cp M p / 4) Ls w4
  rw [psum_lin] at s1 s2
  obtain ⟨r1, r2, r3⟩ := h6
  have k0 := k4 0 (by decide)
  have k44 : k 4 ≤ 2400 := by
    have q := h4.2.1.2.2.2.2.1.2.2
    omega
  have k1 := k4 1 (by decide)
  have k2 := k4 2 (by decide)
  have k3 := k4 3 (by decide)
  have q4 : ∀ x, x ≤ 512 → pk4 x ≤ 1536 := fun x hx => by unfold pk4; split <;> omega
  have p0 := q4 _ k0
  have p1 := q4 _ k1
  have p2 := q4 _ k2
  have p3 := q4 _ k3
  clear h1 h2 h3 h4 h5 h7 hF k4 ge w2 w4 q4 hC
  unfold Pn at r1
  unfold Qn at r2
  exact ⟨by omega, by omega⟩
theorem psum_map {f : Nat → Nat} {g : Nat → Nat} : ∀ (l : List Nat), psum f (l.map g) = psum (fun x => f (g x)) l
  | [] => rfl
  | x :: l => by
    show f (g x) + psum f (l.map g) = f (g x) + psum (fun x => f (g x)) l
    rw [psum_map l]
theorem RI.bd (h : RI Nt9 M a) : psum (cp M) (nums a) ≤ 2555904 ∧ psum (fun p => cp M p / 16) (nums a) ≤ 159744 := by
  have w := h.2.1
  have s1 : psum (cp M) (nums a) ≤ psum (Bd a) (nums a) := psum_le _ (fun q hq => w.bd hq)
  have s2 : psum (fun p => cp M p / 16) (nums a) ≤ psum (fun p => Bd a p / 16) (nums a) := psum_le _ (fun q hq => Nat.div_le_div_right (w.bd hq))
  have e : ∀ o, Bd a (a + o) = if o = 91 ∨ o = 93 ∨ o = 95 ∨ o = 99 then 131072 else 65536 := fun o => by
    unfold Bd
    by_cases c : o = 91 ∨ o = 93 ∨ o = 95 ∨ o = 99
    · rw [if_pos c, if_pos (by omega)]
    · rw [if_neg c, if_neg (by omega)]
  have e1 : psum (Bd a) (nums a) = 2555904 := by
    unfold nums
    rw [psum_map]
    simp only [e]
    decide
  have e2 : psum (fun p => Bd a p / 16) (nums a) = 159744 := by
    unfold nums
    rw [psum_map]
    simp only [e]
    decide
  omega
end NDF
end
section
/-! Math.floorMod. -/
theorem s_JM_floorMod {G : mG} : FMs G := fun d M x y _ hx h hy => (s_JM_floorMod0 d M x y hx h hy).mono (fun _ _ q => ⟨q.1, q.2.1⟩)
end
section
/-! Class and reference side by side in the law's loop. -/
section LIV
variable {G : mG} {d t a o b N n x Ps Pc B0 B1 : Nat} {Nc Nr Nn : tP9} {l l1 l2 : Int} {xs : Int → Int} {M M' M1 M2 : mM} {C Y : Nat → Prop} {c9 c8 : tG9}
theorem CI.ok (h : CI c9 C n t Ps Pc M) : mOk M := by
  obtain ⟨T, Kt, N, A, B, D, Cw, p, O, P, K, p', O', P', K', Ab, Be, Cm, U, Ag, Bg, Cg, cn, cc, bc, Ls, v, R, k, Z, h⟩ := h
  exact h.1
theorem CI.up (h : CI c9 C n t Ps Pc M) : CI c9 C (n + 1) t Ps Pc M := by
  obtain ⟨T, Kt, N, A, B, D, Cw, p, O, P, K, p', O', P', K', Ab, Be, Cm, U, Ag, Bg, Cg, cn, cc, bc, Ls, v, R, k, Z, h⟩ := h
  exact ⟨T, Kt, N, A, B, D, Cw, p, O, P, K, p', O', P', K', Ab, Be, Cm, U, Ag, Bg, Cg, cn, cc, bc, Ls, v, R, k, Z, h.up⟩
theorem CI.clt (h : CI c9 C n t Ps Pc M) (u : C x) : x < mZ M := by
  obtain ⟨T, Kt, N, A, B, D, Cw, p, O, P, K, p', O', P', K', Ab, Be, Cm, U, Ag, Bg, Cg, cn, cc, bc, Ls, v, R, k, Z, h⟩ := h
  exact h.2.2.2.2.1.2.2.2.2 x u
theorem CI.tlt (h : CI c9 C n t Ps Pc M) : t < mZ M := by
  obtain ⟨T, Kt, N, A, B, D, Cw, p, O, P, K, p', O', P', K', Ab, Be, Cm, U, Ag, Bg, Cg, cn, cc, bc, Ls, v, R, k, Z, h⟩ := h
  exact h.top.2.1.1
/-- a step of the class, seen from outside: the out array at o may be written, an exception may be made -/
def cSt (o : Nat) (C : Nat → Prop) (n t Ps Pc : Nat) (Nn : tP9) (M M' : mM) : Prop := ∃ (C' : Nat → Prop) (Ps' Pc' : Nat), CI Nn.2 C' (n + 1) t Ps' Pc' M' ∧ FC (fun x => C x ∨ x = o) M M' ∧ (∀ x, C' x → C x ∨ (mZ M ≤ x ∧ x < mZ M')) ∧ mS M' + Ps ≤ mS M + Ps' + 6 ∧ 64 * mZ M' + Pc ≤ 64 * mZ M + Pc' + 64 ∧ tE Nn M' t
theorem cQ0.cs (h : cQ0 Nn.2 C n t Ps Pc M M') (e : tE Nn M' t) : cSt o C n t Ps Pc Nn M M' := by
  obtain ⟨C', Ps', Pc', h1, h2, h3, h4, h5⟩ := h
  exact ⟨C', Ps', Pc', h1, h2.mono (fun _ _ u => Or.inl u), h3, by omega, by omega, e⟩
theorem cQ.cs (h : cQ Nn.2 C n t Ps Pc M M') (e : tE Nn M t) : cSt o C n t Ps Pc Nn M M' := h.1.cs (h.2.trans e)
theorem fc_new {k w c : Nat} : FC (fun _ => False) M (mNew M k w c) := by
  refine ⟨⟨Nat.le_succ _, Nat.le_add_right _ _⟩, fun x hx => ?_⟩
  have q : Eqc M (mNew M k w c) x := eqc_new (by omega)
  exact ⟨q.1, q.2.1, fun _ => ⟨q.2.2.2.1, q.2.2.2.2, q.2.2.1⟩⟩
theorem CI.thr (h : CI Nn.2 C n t Ps Pc M) (e : tE Nn M t) : cSt o C n t Ps Pc Nn M (mNew M 50 0 6) := by
  have f : FC (fun _ => False) M (mNew M 50 0 6) := fc_new
  obtain ⟨h1, h2, h3⟩ := h.off (mOk_New h.ok) f (fun _ u => u.elim)
  exact ⟨C, Ps, Pc, h1.up, f.mono (fun _ _ u => u.elim), fun x u => Or.inl u, by show mS M + 6 + Ps ≤ mS M + Ps + 6; omega, by show 64 * (mZ M + 1) + Pc ≤ 64 * mZ M + Pc + 64; omega, tE.off h f (fun _ u => u.elim) e⟩
theorem cQ0.out {r : Int} (h : cQ0 Nn.2 C n t Ps Pc M M1) (e : tE Nn M1 t) (no : ¬ C o) (oz : o < mZ M) (ir : i64 r) : cSt o C n t Ps Pc Nn M (mUL M1 o 0 r) := by
  obtain ⟨C', Ps', Pc', h1, h2, h3, h4, h5⟩ := h
  have no' : ¬ C' o := fun u => (h3 o u).elim no (fun w => by omega)
  have f : FC (fun x => x = o) M1 (mUL M1 o 0 r) := ⟨⟨Nat.le_refl _, Nat.le_refl _⟩, fun x _ => ⟨rfl, rfl, fun nx => ⟨funext fun _ => if_neg (fun u => nx u.1), rfl, rfl⟩⟩⟩
  obtain ⟨k1, k2, k3⟩ := h1.off (mOk_UL h1.ok ir) f (fun x u w => no' (by rw [← u]; exact w))
  refine ⟨C', Ps', Pc', k1, ?_, h3, by show mS M1 + Ps ≤ _; omega, by show 64 * mZ M1 + Pc ≤ _; omega, (sE.mi (M := M1) (M' := mUL M1 o 0 r) rfl rfl).trans e⟩
  refine ⟨h2.1, fun x hx => ⟨(h2.2 x hx).1, (h2.2 x hx).2.1, fun nz => ?_⟩⟩
  obtain ⟨g1, g2, g3⟩ := (h2.2 x hx).2.2 (fun u => nz (Or.inl u))
  exact ⟨(funext fun _ => if_neg (fun u => nz (Or.inr u.1)) : mL (mUL M1 o 0 r) x = mL M1 x).trans g1, g2, g3⟩
theorem RI.ownlt (h : RI Nr M a) (u : own M a x) : x < mZ M ∧ a ≤ x := by
  have w := h.2.1
  have zz := w.2.2.2
  rcases u with u | ⟨q, hq, e⟩
  · exact ⟨by omega, u.1⟩
  · have p1 := (w.nu hq).2.2.1.2
    have p2 := (w.arr hq).2
    have p3 := nums_in hq
    exact ⟨by omega, by rw [e]; rcases p2 with y | y <;> omega⟩
/-- both objects, the script at b, the out array at o; n calls were made; the class's tape holds Nc characters, the reference's Nr -/
def IV0 (C : Nat → Prop) (Ps Pc o a b N : Nat) (xs : Int → Int) (t B0 B1 n : Nat) (Nc Nr : tP9) (M : mM) : Prop := CI Nc.2 C n t Ps Pc M ∧ RI Nr M a ∧ tE Nc M t ∧ (∀ x, C x → t ≤ x ∧ ¬ own M a x ∧ x ≠ o) ∧ (Scr b N xs M ∧ b < t ∧ t ≤ a) ∧ (mK M o = 33 ∧ 0 < mN M o ∧ o < mZ M ∧ ¬ own M a o) ∧ mS M ≤ B0 + Ps + 2 * psum (cp M) (nums a) + 6 * n ∧ 64 * mZ M ≤ B1 + Pc + 64 * psum (fun p => cp M p / 16) (nums a) + 64 * n
def IV (o a b N : Nat) (xs : Int → Int) (t B0 B1 n : Nat) (Nc Nr : tP9) (M : mM) : Prop := ∃ (C : Nat → Prop) (Ps Pc : Nat), IV0 C Ps Pc o a b N xs t B0 B1 n Nc Nr M
theorem Scr.fc (h : Scr b N xs M) (f : FC Y M M') (hb : b < mZ M) (ny : ¬ Y b) : Scr b N xs M' := by
  obtain ⟨f1, f2, f3⟩ := f.2 b hb
  unfold Scr at h ⊢
  rw [f1, f2, (f3 ny).2.2]
  exact h
theorem IV0.cls (h : IV0 C Ps Pc o a b N xs t B0 B1 n Nc Nr M) (q : cSt o C n t Ps Pc Nn M M1) : IV o a b N xs t B0 B1 (n + 1) Nn Nr M1 ∧ Scr b N xs M1 ∧ mK M1 a = 14 := by
  obtain ⟨h1, h2, h3, h4, ⟨h5, h5b, h5a⟩, ⟨o1, o2, o3, o4⟩, h7, h8⟩ := h
  obtain ⟨C', Ps', Pc', q1, q2, q3, q4, q5, q6⟩ := q
  have tz := h1.tlt
  have bz : b < mZ M := by omega
  have az : a < mZ M := by have := h2.2.1.2.2.2; omega
  obtain ⟨r1, r2, r3⟩ := h2.off q1.ok q2 (fun x u => u.elim (fun v => (h4 x v).2.1) (fun v => by rw [v]; exact o4))
  have e1 : psum (cp M1) (nums a) = psum (cp M) (nums a) := psum_cg _ (fun p hp => (r2 p hp).2.2.1)
  have e2 : psum (fun p => cp M1 p / 16) (nums a) = psum (fun p => cp M p / 16) (nums a) := psum_cg _ (fun p hp => by rw [(r2 p hp).2.2.1])
  have nb : ¬ (C b ∨ b = o) := fun u => by
    rcases u with u | u
    · have := (h4 b u).1
      omega
    · rw [← u, h5.1] at o1
      cases o1
  have sc : Scr b N xs M1 := h5.fc q2 bz nb
  have k14 : mK M1 a = 14 := by rw [(q2.2 a az).1]; exact h2.2.1.1.1
  have zz := q2.1.1
  refine ⟨⟨C', Ps', Pc', q1, r1, q6, fun x u => ?_, ⟨sc, h5b, h5a⟩, ⟨by rw [(q2.2 o o3).1]; exact o1, by rw [(q2.2 o o3).2.1]; exact o2, by omega, fun u => o4 ((r3 o).1 u)⟩, by rw [e1]; omega, by rw [e2]; omega⟩, sc, k14⟩
  rcases q3 x u with v | v
  · exact ⟨(h4 x v).1, fun w => (h4 x v).2.1 ((r3 x).1 w), (h4 x v).2.2⟩
  · exact ⟨by omega, fun w => by have := (h2.ownlt ((r3 x).1 w)).1; omega, by omega⟩
theorem IV.ref (h : IV o a b N xs t B0 B1 n Nc Nr M) (q1 : RI Nn M2 a) (q2 : FR M a M2) (q3 : mS M ≤ mS M2) : IV o a b N xs t B0 B1 n Nc Nn M2 := by
  obtain ⟨C, Ps, Pc, h1, h2, h3, h4, ⟨h5, h5b, h5a⟩, ⟨o1, o2, o3, o4⟩, h7, h8⟩ := h
  have f := q2.fc q3
  have tz := h1.tlt
  have bz : b < mZ M := by omega
  obtain ⟨c1, c2, c3⟩ := h1.off q1.1 f (fun x u v => (h4 x v).2.1 u)
  have ow : ∀ x, x < mZ M → own M2 a x → own M a x := fun x hx u => by
    rcases u with u | ⟨q, hq, e⟩
    · exact Or.inl u
    · rcases q2.2.2.2.1 q hq with w | w
      · exact Or.inr ⟨q, hq, by rw [e, w]⟩
      · omega
  have nb : ¬ own M a b := fun u => by have := (h2.ownlt u).2; omega
  have zz := f.1.1
  obtain ⟨m1, m2⟩ := q2.2.2.2.2
  exact ⟨C, Ps, Pc, c1, q1, tE.off h1 f (fun x u v => (h4 x v).2.1 u) h3, fun x u => ⟨(h4 x u).1, fun w => (h4 x u).2.1 (ow x (h1.clt u) w), (h4 x u).2.2⟩, ⟨h5.fc f bz nb, h5b, h5a⟩, ⟨by rw [(f.2 o o3).1]; exact o1, by rw [(f.2 o o3).2.1]; exact o2, by omega, fun u => o4 (ow o o3 u)⟩, by omega, by omega⟩
theorem IV.up (h : IV o a b N xs t B0 B1 n Nc Nr M) : IV o a b N xs t B0 B1 (n + 1) Nc Nr M := by
  obtain ⟨C, Ps, Pc, h1, h2, h3, h4, h5, h6, h7, h8⟩ := h
  exact ⟨C, Ps, Pc, h1.up, h2, h3, h4, h5, h6, by omega, by omega⟩
theorem IV0.scr (h : IV0 C Ps Pc o a b N xs t B0 B1 n Nc Nr M) : Scr b N xs M := h.2.2.2.2.1.1
theorem IV0.kt (h : IV0 C Ps Pc o a b N xs t B0 B1 n Nc Nr M) : mK M t = 1 := by
  obtain ⟨cn, cc, bc, q⟩ := h.1.tg
  exact q.2.1.1
theorem IV0.no (h : IV0 C Ps Pc o a b N xs t B0 B1 n Nc Nr M) : ¬ C o := fun u => (h.2.2.2.1 o u).2.2 rfl
theorem IV0.oz (h : IV0 C Ps Pc o a b N xs t B0 B1 n Nc Nr M) : o < mZ M := h.2.2.2.2.2.1.2.2.1
theorem IV0.oq (h : IV0 C Ps Pc o a b N xs t B0 B1 n Nc Nr M) (q : cQ0 c9 C n t Ps Pc M M1) : mK M1 o = 33 ∧ 0 < mN M1 o := by
  obtain ⟨C', Ps', Pc', q1, q2, q3⟩ := q
  have f := q2.2 o h.oz
  have g := h.2.2.2.2.2.1
  exact ⟨by rw [f.1]; exact g.1, by rw [f.2.1]; exact g.2.1⟩
theorem IV0.fin (h : IV0 C Ps Pc o a b N xs t B0 B1 n Nc Nr M) : mS M ≤ B0 + 1448000 + 5111808 + 6 * n ∧ 64 * mZ M ≤ B1 + 5300000 + 64 * 159744 + 64 * n := by
  have p1 := h.1.bd (fun x u => (h.2.2.2.1 x u).1)
  have p2 := h.2.1.bd
  have p3 := h.2.2.2.2.2.2
  omega
theorem i64_32 {r : Int} (h : i32 r) : i64 r := ⟨by have := h.1; omega, by have := h.2; omega⟩
theorem CiW.mono {y : mY} {hs : List (Nat × Nat × Nat × Nat)} {As : List mV} {Q Q' : Int → mM → Prop} (h : CiW G y hs d As M Q) (hq : ∀ x M', Q x M' → Q' x M') : CiW G y hs d As M Q' := by
  obtain ⟨r, M', h1, x, e, h2⟩ := h
  exact ⟨r, M', h1, x, e, hq x M' h2⟩
end LIV
end
section
/-! The law's helpers, whatever the class does. -/
section LHP
variable {G : mG} {d t a o b N n x Ps Pc B0 B1 : Nat} {Nc Nr Nn : tP9} {l l1 l2 : Int} {xs : Int → Int} {M M' M1 M2 : mM} {C Y : Nat → Prop} {c9 c8 : tG9}
theorem CI.gtt (h : CI c9 C n t Ps Pc M) : ∃ cn cc bc, GTT M (t + 62) cn cc bc := by
  obtain ⟨T, Kt, N, A, B, D, Cw, p, O, P, K, p', O', P', K', Ab, Be, Cm, U, Ag, Bg, Cg, cn, cc, bc, Ls, v, R, k, Z, h⟩ := h
  exact ⟨cn, cc, bc, h.2.2.1.2.2.2.2.2.1.gtt h.2.2.1.2.2.2.2.2.2.2⟩
theorem CI.gk (h : CI c9 C n t Ps Pc M) : mR M t 9 = t + 62 ∧ GK M (t + 62) := by
  obtain ⟨cn, cc, bc, q⟩ := h.tg
  exact ⟨q.2.1.2, q.2.2.1⟩
theorem CI.kp (h : CI c9 C n t Ps Pc M) : mK M (mR M t 4) = 6 ∧ mK M (mR M t 11) = 13 := by
  obtain ⟨T, Kt, N, A, B, D, Cw, p, O, P, K, p', O', P', K', Ab, Be, Cm, U, Ag, Bg, Cg, cn, cc, bc, Ls, v, R, k, Z, j⟩ := h
  have jn := j.2.2.2.1
  exact ⟨by rw [j.2.1.1.2.2.1]; exact j.2.1.2.2.2.2.1.1, by rw [jn.2.2.1.2.2.1.1]; exact (jn.1.2.1.1 0 (by decide)).1.1⟩
theorem hp_end (hT : TH G) (il : i32 l) (h : IV0 C Ps Pc o a b N xs t B0 B1 n Nc Nr M) : CiW G y_La_end hs_end 39 [vr t, vi l, vr o] M (fun _ M1 => cSt o C n t Ps Pc (if 0 ≤ l ∧ l ≤ 20 ∧ 20 ≤ Nc.1 then Nc.1 - 20 + l else Nc.1, Nc.2) M M1) := by
  have tp := h.2.2.1.1
  by_cases c : 0 ≤ l ∧ l ≤ 20 ∧ 20 ≤ mI M t 1
  · refine (n_La_end (d := 38) (l1 := 0) (l2 := 0) (o := o) h.kt (c_CA_end (d := 38) il h.1 c) (fun r M1 q => ⟨q.1, h.oq q.2.1⟩)).mono (fun x M2 q => ?_)
    obtain ⟨-, r, M1, q, rfl⟩ := q
    rw [tp] at c
    rw [if_pos c]
    exact q.2.1.out (Nn := (Nc.1 - 20 + l, Nc.2)) ⟨by rw [q.2.2.2.1, q.2.2.1, tp]; show Nc.1 + (l - 20) = Nc.1 - 20 + l; omega, h.2.2.1.2.xc q.2.2.2.2⟩ h.no h.oz (i64_32 q.1)
  · have c' := c
    rw [tp] at c'
    rw [if_neg c']
    exact ⟨_, _, x_La_end (d := 38) (l1 := 0) (l2 := 0) h.kt (t_CA_end hT (by decide) h.1.ok il h.kt c), 1, rfl, h.1.thr (Nn := (Nc.1, Nc.2)) h.2.2.1⟩
theorem CI.t6 (h : CI c9 C n t Ps Pc M) : mI M t 6 = c9.2.1 := by
  obtain ⟨T, Kt, N, A, B, D, Cw, p, O, P, K, p', O', P', K', Ab, Be, Cm, U, Ag, Bg, Cg, cn, cc, bc, Ls, v, R, k, Z, j⟩ := h
  exact j.2.1.2.2.2.2.2.2.2.1
theorem hp_explore (hT : TH G) (hF : FMs G) (hn : n ≤ 1000) (h : IV0 C Ps Pc o a b N xs t B0 B1 n Nc Nr M) : CiW G y_La_explore hs_explore 39 [vr t, vr o] M (fun x M1 => ∃ Nn : tP9, cSt o C n t Ps Pc Nn M M1 ∧ ((x = 0 ∧ Nc.2.2.1 ≠ 0 ∧ Nn = (Nc.1, Nc.2.1, exp9 Nc.2.2) ∧ mL M1 o 0 = Nc.2.2.2.2.2.2.1.1.1) ∨ (x = 1 ∧ Nc.2.2.1 = 0 ∧ Nn = Nc))) := by
  have e6 := h.1.t6
  by_cases c : mI M t 6 = 0
  · exact ⟨_, _, x_La_explore (d := 38) (l := 0) (l1 := 0) (l2 := 0) h.kt (t_CA_explore hT (by decide) h.1.ok h.kt c), 1, rfl, Nc, h.1.thr h.2.2.1, Or.inr ⟨rfl, by rw [← e6]; exact c, rfl⟩⟩
  · refine (n_La_explore (d := 38) (l := 0) (l1 := 0) (l2 := 0) (o := o) h.kt (c_CA_explore (d := 30) hF hn h.1 c) (fun r M1 q => ⟨q.1, h.oq q.2.1.1⟩)).mono (fun x M2 q => ?_)
    obtain ⟨ex, r, M1, q, rfl⟩ := q
    exact ⟨(Nc.1, Nc.2.1, exp9 Nc.2.2), q.2.1.1.out (Nn := (Nc.1, Nc.2.1, exp9 Nc.2.2)) ⟨q.2.1.2.1.trans h.2.2.1.1, q.2.1.2.2⟩ h.no h.oz (i64_32 q.1), Or.inl ⟨ex, by rw [← e6]; exact c, rfl, by rw [mL_UL, if_pos ⟨rfl, rfl⟩]; exact q.2.2⟩⟩
theorem CI.v3 (h : CI c9 C n t Ps Pc M) (u : 0 < mI M (t + 62) 0) : mI M (mR M t 4) 3 = c9.2.2.1 := by
  obtain ⟨T, Kt, N, A, B, D, Cw, p, O, P, K, p', O', P', K', Ab, Be, Cm, U, Ag, Bg, Cg, cn, cc, bc, Ls, v, R, k, Z, j⟩ := h
  have c0 := j.tg.2.2.2.cnt.1
  rw [j.2.1.1.2.2.1]
  exact (j.2.1.2.2.2.2.2.2.2.2 (j.2.2.2.2.2.2 (by omega))).1
theorem hp_variable (hT : TH G) (i1 : i32 l1) (i2 : i32 l2) (h : IV0 C Ps Pc o a b N xs t B0 B1 n Nc Nr M) : CiW G y_La_variable hs_variable 39 [vr t, vi l1, vi l2, vr o] M (fun x M1 => cSt o C n t Ps Pc Nc M M1 ∧ ((x = 0 ∧ ((0 ≤ l1 ∧ l1 < ((Nc.2.2.2.2.2.2.2.2.1.length : Nat) : Int)) ∧ (0 ≤ l2 ∧ l2 < Nc.2.2.2.1)) ∧ mL M1 o 0 = vaA9 Nc.2.2.2.2.2.2.2.2.1 l1 l2) ∨ (x = 1 ∧ ¬ ((0 ≤ l1 ∧ l1 < ((Nc.2.2.2.2.2.2.2.2.1.length : Nat) : Int)) ∧ (0 ≤ l2 ∧ l2 < Nc.2.2.2.1))))) := by
  have x3 := h.2.2.1.2.2.2.1
  have v3 := h.1.v3
  have cr : ((0 ≤ l1 ∧ l1 < mI M (t + 62) 0) ∧ (0 ≤ l2 ∧ l2 < mI M (mR M t 4) 3)) ↔ ((0 ≤ l1 ∧ l1 < ((Nc.2.2.2.2.2.2.2.2.1.length : Nat) : Int)) ∧ (0 ≤ l2 ∧ l2 < Nc.2.2.2.1)) := by
    rw [← x3]
    constructor
    · intro u
      have := v3 (by omega)
      exact ⟨u.1, by omega⟩
    · intro u
      have := v3 (by omega)
      exact ⟨u.1, by omega⟩
  by_cases c : (0 ≤ l1 ∧ l1 < mI M (t + 62) 0) ∧ (0 ≤ l2 ∧ l2 < mI M (mR M t 4) 3)
  · refine (n_La_variable (d := 38) (l := 0) (o := o) h.kt (e_CA_variable (d := 37) i1 i2 h.1 h.2.2.1.2 c) (fun r M1 q => ⟨q.1, h.oq q.2.1.1⟩)).mono (fun x M2 q => ?_)
    obtain ⟨ex, r, M1, q, rfl⟩ := q
    exact ⟨q.2.1.1.out (q.2.1.2.trans h.2.2.1) h.no h.oz (i64_32 q.1), Or.inl ⟨ex, cr.mp c, by rw [mL_UL, if_pos ⟨rfl, rfl⟩]; exact q.2.2⟩⟩
  · exact ⟨_, _, x_La_variable (d := 38) (l := 0) h.kt (t_CA_variable (d := 37) hT (by decide) h.1.ok i1 i2 h.kt h.1.gk.1 h.1.gk.2.1 rfl h.1.kp.1 c), 1, rfl, h.1.thr h.2.2.1, Or.inr ⟨rfl, fun u => c (cr.mpr u)⟩⟩
theorem hp_solve (hT : TH G) (h : IV0 C Ps Pc o a b N xs t B0 B1 n Nc Nr M) : CiW G y_La_solve hs_solve 39 [vr t, vr o] M (fun x M1 => ∃ Nn : tP9, cSt o C n t Ps Pc Nn M M1 ∧ ((x = 0 ∧ Nc.2.2.2.2.2.2.2.2.1 ≠ [] ∧ Nn = (Nc.1, Nc.2.1, kn9 Nc.2.2 (if mL M1 o 0 = 0 then 1 else 0)) ∧ (kdT Nc.2.2.2.2.2.2.2.2.2 → svA9 Nc.2.2.2.2.2.2.2.2.2 (mL M1 o 0))) ∨ (x = 1 ∧ Nc.2.2.2.2.2.2.2.2.1 = [] ∧ Nn = Nc))) := by
  have l29 := h.2.2.1.2.2.2.1
  by_cases c : mI M (t + 62) 0 = 0
  · exact ⟨_, _, x_La_solve (d := 38) (l := 0) (l1 := 0) (l2 := 0) h.kt (t_CA_solve hT (by decide) h.1.ok h.kt h.1.gk.1 h.1.gk.2.1 c), 1, rfl, Nc, h.1.thr h.2.2.1, Or.inr ⟨rfl, List.length_eq_zero_iff.mp (by omega), rfl⟩⟩
  · refine (n_La_solve (d := 38) (l := 0) (l1 := 0) (l2 := 0) (o := o) h.kt (c_CA_solve (d := 29) h.1 c) (fun r M1 q => ⟨q.1, h.oq q.2.1.1⟩)).mono (fun x M2 q => ?_)
    obtain ⟨ex, r, M1, q, rfl⟩ := q
    have ne : Nc.2.2.2.2.2.2.2.2.1 ≠ [] := fun z => c (by rw [l29, z]; rfl)
    obtain ⟨V, -, -, eT⟩ := h.2.2.1.2.2.2.2.2 ne
    refine ⟨(Nc.1, Nc.2.1, kn9 Nc.2.2 (if r = 0 then 1 else 0)), (q.2.1.1.e8).out (Nn := (Nc.1, Nc.2.1, kn9 Nc.2.2 (if r = 0 then 1 else 0))) ⟨q.2.1.2.1.1.trans h.2.2.1.1, h.2.2.1.2.kn q.2.1.2.1 q.2.1.2.2⟩ h.no h.oz (i64_32 q.1), Or.inl ⟨ex, ne, ?_⟩⟩
    have eL : mL (mUL M1 o 0 r) o 0 = r := by rw [mL_UL, if_pos ⟨rfl, rfl⟩]
    rw [eL]
    refine ⟨rfl, ?_⟩
    have k := q.2.2
    rw [l29, Int.toNat_natCast, eT] at k
    exact k
theorem hp_within (hT : TH G) (hN : va_Nc "java/lang/IllegalStateException" "java/lang/IllegalArgumentException" (gS G)) (il : i32 l) (h : IV0 C Ps Pc o a b N xs t B0 B1 n Nc Nr M) : CiW G y_La_within hs_within 39 [vr t, vi l, vr o] M (fun x M1 => cSt o C n t Ps Pc Nc M M1 ∧ ((x = 0 ∧ (0 ≤ l ∧ l ≤ 32) ∧ Nc.2.2.2.2.2.2.2.2.1 ≠ [] ∧ anA9 Nc.2.2.2.2.2.2.2.2.2 l.toNat (mL M1 o 0)) ∨ (x = 1 ∧ ¬ (0 ≤ l ∧ l ≤ 32)) ∨ (x = 2 ∧ (0 ≤ l ∧ l ≤ 32) ∧ Nc.2.2.2.2.2.2.2.2.1 = []))) := by
  have l29 := h.2.2.1.2.2.2.1
  by_cases c : 0 ≤ l ∧ l ≤ 32
  · by_cases c0 : mI M (t + 62) 0 = 0
    · exact ⟨_, _, x_La_within2 (d := 38) (l1 := 0) (l2 := 0) h.kt hN (t_CA_within2 hT (by decide) h.1.ok il c h.kt h.1.gk.1 h.1.gk.2.1 c0), 2, rfl, h.1.thr h.2.2.1, Or.inr (Or.inr ⟨rfl, c, List.length_eq_zero_iff.mp (by omega)⟩)⟩
    · refine (n_La_within (d := 38) (l1 := 0) (l2 := 0) (o := o) h.kt (c_CA_within (d := 29) c h.1 c0) (fun r M1 q => ⟨q.1, h.oq q.2.1.1⟩)).mono (fun x M2 q => ?_)
      obtain ⟨ex, r, M1, q, rfl⟩ := q
      have ne : Nc.2.2.2.2.2.2.2.2.1 ≠ [] := fun z => c0 (by rw [l29, z]; rfl)
      obtain ⟨V, -, -, eT⟩ := h.2.2.1.2.2.2.2.2 ne
      refine ⟨q.2.1.1.out (q.2.1.2.trans h.2.2.1) h.no h.oz (i64_32 q.1), Or.inl ⟨ex, c, ne, ?_⟩⟩
      rw [mL_UL, if_pos ⟨rfl, rfl⟩]
      have k := q.2.2
      rw [l29, Int.toNat_natCast, eT] at k
      exact k
  · exact ⟨_, _, x_La_within1 (d := 38) (l1 := 0) (l2 := 0) h.kt (t_CA_within1 hT (by decide) il c), 1, rfl, h.1.thr h.2.2.1, Or.inr (Or.inl ⟨rfl, c⟩)⟩
theorem hp_judge (hT : TH G) (hN : va_Nc "java/lang/IllegalStateException" "java/lang/IllegalArgumentException" (gS G)) (il : i32 l) (h : IV0 C Ps Pc o a b N xs t B0 B1 n Nc Nr M) : CiW G y_La_judge hs_judge 39 [vr t, vi l, vr o] M (fun _ M1 => cSt o C n t Ps Pc Nc M M1) := by
  by_cases c : l = 1 ∨ l = 2
  · by_cases c0 : mI M (t + 62) 0 = 0
    · exact ⟨_, _, x_La_judge2 (d := 38) (l1 := 0) (l2 := 0) h.kt hN (t_CA_judge2 hT (by decide) h.1.ok il c h.kt h.1.gk.1 h.1.gk.2.1 c0), 2, rfl, h.1.thr h.2.2.1⟩
    · refine (n_La_judge (d := 38) (l1 := 0) (l2 := 0) (o := o) h.kt (c_CA_judge (d := 29) c h.1 c0) (fun r M1 q => ⟨q.1, h.oq q.2.1⟩)).mono (fun x M2 q => ?_)
      obtain ⟨-, r, M1, q, rfl⟩ := q
      exact q.2.1.out (q.2.2.trans h.2.2.1) h.no h.oz (i64_32 q.1)
  · exact ⟨_, _, x_La_judge1 (d := 38) (l1 := 0) (l2 := 0) h.kt (t_CA_judge1 hT (by decide) il c), 1, rfl, h.1.thr h.2.2.1⟩
theorem hp_adopt (hT : TH G) (h : IV0 C Ps Pc o a b N xs t B0 B1 n Nc Nr M) : CiW G y_La_adopt hs_adopt 39 [vr t] M (fun x M1 => cSt o C n t Ps Pc Nc M M1 ∧ x = if Nc.2.2.2.2.2.2.2.1.2.2 = 0 then 1 else 0) := by
  have kne := h.2.2.1.2.2.1.2
  by_cases c : mI M (mR M t 11) 1 = 0
  · exact ⟨_, _, x_La_adopt (d := 38) (o := 0) (l := 0) (l1 := 0) (l2 := 0) h.kt (t_CA_adopt hT (by decide) h.1.ok h.kt rfl h.1.kp.2 c), 1, rfl, h.1.thr h.2.2.1, by rw [if_pos (by rw [← kne]; exact c)]⟩
  · refine (n_La_adopt (d := 38) (l := 0) (l1 := 0) (l2 := 0) h.kt (c_CA_adopt (d := 37) h.1 c)).mono (fun x M2 q => ?_)
    exact ⟨q.2.cs h.2.2.1, by rw [if_neg (by rw [← kne]; exact c)]; exact q.1⟩
theorem hp_choose (hT : TH G) (i1 : i32 l1) (i2 : i32 l2) (h : IV0 C Ps Pc o a b N xs t B0 B1 n Nc Nr M) : CiW G y_La_choose hs_choose 39 [vr t, vi l1, vi l2] M (fun x M1 => cSt o C n t Ps Pc Nc M M1 ∧ ((x = 0 ∧ cmA9 Nc.2.2.2.2.2.2.2.2.2 l1 l2 ≠ none) ∨ (x = 1 ∧ cmA9 Nc.2.2.2.2.2.2.2.2.2 l1 l2 = none))) := by
  have key : (¬ cmdP M (t + 62) (mI M (t + 62) 0).toNat l1 l2 ∧ cmA9 Nc.2.2.2.2.2.2.2.2.2 l1 l2 = none) ∨ (cmdP M (t + 62) (mI M (t + 62) 0).toNat l1 l2 ∧ cmA9 Nc.2.2.2.2.2.2.2.2.2 l1 l2 ≠ none) := by
    obtain ⟨cn, cc, bc, tg⟩ := h.1.tg
    have hc := tg.2.2.2.cnt.1
    rw [hc, Int.toNat_natCast]
    rcases h.2.2.1.2.cm tg.2.2.2 l1 l2 with ⟨y1, y2⟩ | ⟨y1, j, -, -, -, y2⟩
    · exact Or.inl ⟨y1, y2⟩
    · exact Or.inr ⟨y1, by rw [y2]; exact Option.some_ne_none _⟩
  obtain ⟨cn, cc, bc, g⟩ := h.1.gtt
  have gk := h.1.gk
  have g9 := gk.2.gk9.1
  have e0 := g.2.2.2
  have en : (mI M (t + 62) 0).toNat = cn := by rw [e0]; exact Int.toNat_natCast _
  by_cases c : cmdP M (t + 62) (mI M (t + 62) 0).toNat l1 l2
  · refine (n_La_choose (d := 38) (l := 0) h.kt (c_CA_choose (d := 36) i1 i2 h.1 c)).mono (fun x M2 q => ?_)
    exact ⟨q.2.cs h.2.2.1, Or.inl ⟨q.1, (key.resolve_left (fun u => u.1 c)).2⟩⟩
  · refine ⟨_, _, x_La_choose (d := 38) (o := 0) (l := 0) h.kt (t_CA_choose (d := 36) (F := t + 62 + 4) hT (by decide) h.1.ok i1 i2 h.kt gk.1 gk.2.1 g9.2.1.2.1 (g9.2.2.1 4 (by decide) (by decide)) ?_ (fun u => ?_) (fun u => c ?_)), 1, rfl, h.1.thr h.2.2.1, Or.inr ⟨rfl, (key.resolve_right (fun u => c u.1)).2⟩⟩
    · rw [g9.2.2.2.2.1, e0]
      have := g.1.1
      omega
    · have u2 := u.2
      rw [e0] at u2
      obtain ⟨x, y, e1, e2, e3, e4⟩ := g.2.2.1 l1.toNat (by omega)
      have et : (l1 + 1).toNat = l1.toNat + 1 := by omega
      have b4 := g.1.2
      rw [et, e1, e2]
      exact ⟨by omega, by omega⟩
    · unfold cmdP
      rw [en]
      rw [e0] at u
      exact u
end LHP
end
section
/-! Class and reference give the same answer to compile. -/
section SME
variable {w : Nat → Int} {c : Nat → Int} {N n a Nw A B D f k : Nat} {Mx Mw : mM} {r1 r2 p : Int} {kk : Int × Int × Int × xR9}
theorem ac_last : ∀ (f k : Nat), Ac w N f [50] k → w (N - 1) = 0 := by
  intro f
  induction f using Nat.strongRecOn with
  | ind f ih =>
    intro k h
    rcases ac_item h with ⟨c0, c1⟩ | ⟨-, e, g, hg, -, hac⟩
    · rw [show N - 1 = k by omega]
      exact c0
    · exact ih g hg (e + 1) hac
theorem ag_of (sp : spx kwx c N Mx A B D n) (rw9 : rwx kwx c N a Nw Mw) (hN1 : 1 ≤ Nw) (tx : ∀ j, j < N → txc Mw a j = c j) (hn : n + 1 = Nw) (e0 : nt Mw (a + 5) (Nw - 1) = 0) (e7 : nt Mw (a + 7) (Nw - 1) = N) : AgW (wk Mw a) (cwq kwx c N n) (nt Mw (a + 7)) (pl0 c N n) (nuq Mw a) (nq0 c N) (smx Mw a) (sm0 c N) Nw := by
  have wd : ∀ j, j < Nw → wk Mw a j = cwq kwx c N n j := fun j hj => (wd_same sp rw9 hN1 j hj).symm
  have lt : ∀ j, j < Nw → wk Mw a j ≠ 0 → j + 1 < Nw := fun j hj h => by
    by_cases y : j + 1 < Nw
    · exact y
    · exfalso
      have e : j = Nw - 1 := by omega
      rw [e] at h
      exact h e0
  have pr : ∀ j, j + 1 < Nw → nt Mw (a + 7) j = ((pwq c N j : Nat) : Int) ∧ nt Mw (a + 9) j = ((weq c N (pwq c N j) : Nat) : Int) ∧ pwq c N j < weq c N (pwq c N j) ∧ weq c N (pwq c N j) ≤ N := fun j hj => by
    obtain ⟨y1, y2, y3, y4, y5⟩ := rw9.1 j hj
    have b := weq_b (c := c) y1
    exact ⟨y4, y5, b.1, b.2⟩
  refine ⟨fun j hj => ⟨wd j hj, ?_, fun h2 => ?_⟩, fun x v hx hv h1 h2 => ?_⟩
  · unfold pl0
    by_cases y : j < n
    · rw [if_pos y]
      exact (pr j (by omega)).1
    · rw [if_neg y, show j = Nw - 1 by omega]
      exact e7
  · obtain ⟨y1, y2, y3, y4⟩ := pr j (lt j hj (by rw [h2]; decide))
    unfold nuq nq0
    rw [y1, y2, Int.toNat_natCast, show (((weq c N (pwq c N j) : Nat) : Int) - ((pwq c N j : Nat) : Int)).toNat = weq c N (pwq c N j) - pwq c N j by omega]
    exact numq_cg tx _ (by omega)
  · obtain ⟨x1, x2, x3, x4⟩ := pr x (lt x hx (by rw [h1]; decide))
    obtain ⟨v1, v2, v3, v4⟩ := pr v (lt v hv (by rw [h2]; decide))
    unfold smx sm0
    rw [x1, x2, v1, v2, Int.toNat_natCast, Int.toNat_natCast]
    refine ⟨fun u => ⟨u.1.symm, fun i hi => ?_⟩, fun u => ⟨u.1.symm, fun i hi => ?_⟩⟩
    · have u1 := u.1
      have t1 := tx (pwq c N x + i) (by omega)
      have t2 := tx (pwq c N v + i) (by omega)
      rw [← t1, ← t2]
      exact u.2 i (by omega)
    · have u1 := u.1
      have t1 := tx (pwq c N x + i) (by omega)
      have t2 := tx (pwq c N v + i) (by omega)
      have g := u.2 i (by omega)
      rw [← t1, ← t2] at g
      exact g
theorem RI.z {i9 : tI9} {M : mM} (h : RI (z9 i9) M a) (c : Nat → Int) : RI (0, c, i9) M a := ⟨h.1, h.2.1, ⟨Tpl.nil h.2.2.1.1.1, h.2.2.1.2⟩, h.2.2.2⟩
theorem same_ans {p1 : Int} {k1 : Int × Int × Int × xR9} (h1 : clR c N r1 p1 k1) (h2 : cmR c N a r2 p kk) : r1 = r2 ∧ (r1 = 0 → k1 = kk) ∧ (r1 ≠ 0 → p1 = p) := by
  obtain ⟨Mx, A, B, D, n, sp, h1⟩ := h1
  obtain ⟨Mw, Nw, hN1, rw9, tx, h2⟩ := h2
  have wd := wd_same sp rw9 hN1
  rcases h2 with ⟨e2, q, hq, ep, rf⟩ | ⟨rc, ⟨f, hac⟩, sF, eF, h2⟩
  · have rf := rf (cwq kwx c N n) wd
    rcases h1 with ⟨e1, q9, rf9, ep1⟩ | ⟨⟨b, rc⟩, -⟩
    · refine ⟨by rw [e1, e2], fun u => by rw [e1] at u; exact absurd u (by decide), fun _ => ?_⟩
      have eq := rf9.same rf
      subst eq
      rw [ep1, ep]
      unfold pl0
      by_cases y : q9 + 1 < Nw
      · have := (rw9.1 q9 y).2.2.2.1
        rw [if_pos (by rcases wd_cnt sp rw9 hN1 with ⟨u, -⟩ | ⟨u, -⟩ <;> omega)]
        exact this.symm
      · have e9 : q9 = Nw - 1 := by omega
        rcases wd_cnt sp rw9 hN1 with ⟨u1, -, u3⟩ | ⟨u1, -, -, u3⟩
        · rw [if_neg (by omega), e9]
          exact u3.symm
        · rw [if_pos (by omega), e9]
          exact u3.symm
    · exact (rf.not rc).elim
  · have rc := rc (cwq kwx c N n) wd
    rcases h1 with ⟨-, q9, rf, -⟩ | ⟨-, s1, es1, e1, e1p, k1e⟩
    · exact (rf.not rc).elim
    · have l0 : nt Mw (a + 5) (Nw - 1) = 0 := ac_last f 0 hac
      have hn : n + 1 = Nw ∧ nt Mw (a + 7) (Nw - 1) = N := by
        rcases wd_cnt sp rw9 hN1 with ⟨u1, -, u3⟩ | ⟨-, u2, -⟩
        · exact ⟨u1, u3⟩
        · rw [l0] at u2
          exact absurd u2 (by decide)
      have ag := ag_of sp rw9 hN1 tx hn.1 l0 hn.2
      have e := its_cg ag f Nw 0 s09 (by omega) hac (fun e he => absurd he (by simp [s09]))
      rw [← eF] at e
      rw [hn.1] at es1 k1e
      have ss : s1 = sF := by
        rw [e]
        exact es1
      subst ss
      rcases h2 with ⟨u0, u, u'⟩ | ⟨u0, u, -, u1, ug⟩
      · exact ⟨by rw [e1, u], fun v => absurd (e1.symm.trans v) u0, fun v => by rw [e1p v, u']⟩
      · have xe := xpg_same ag hac ug
        refine ⟨by rw [e1, u, u0], fun v => ?_, fun v => absurd (e1.trans u0) v⟩
        rw [k1e v, u1]
        refine congrArg (fun z => (((s1.2.1.1 : Nat) : Int), ((s1.2.1.2.1 : Nat) : Int), ((s1.2.1.2.2.1 : Nat) : Int), z)) ?_
        rw [eF]
        exact xe.symm
end SME
end
