/-! The class at rest: compile. -/
section NDD
variable {G : mG} {d t x n cn cc bc T Kt N A B D Cw p O P K p' O' P' K' Ab Be Cm U Ag Bg Cg Ps Pc Ps1 Pc1 : Nat} {M M' M1 M2 : mM} {Z Y C : Nat → Prop} {v R k : Nat → Nat} {Ls : List Nat} {c9 c8 : tG9}
/-- the spare program becomes the text -/
theorem CJ.swp {i8 : Int × Int × Int × xR9 × tE9} {M24 M26 : mM} (im : mI M p' 3 = i8.1 ∧ mI M p' 7 = i8.2.1 ∧ mI M p' 12 = i8.2.2.1 ∧ Pgm i8.2.2.2.1 M p' O' P') (hj : CJ c9 C n t Ps Pc T Kt N A B D Cw p O P K p' O' P' K' Ab Be Cm U Ag Bg Cg cn cc bc Ls v R k Z M) (pw : ∃ (V F : Nat) (ns : Nat → Int) (sf ef : Nat → Nat) (L cnt : Nat), PW M (t + 236) p' O' P' K' V F ns sf ef L cnt) (e1 : M24 = mUR M t 4 (mR M t 5)) (e2 : M26 = mUR M24 t 5 (mR M t 4)) (e3 : M' = mUI M26 t 6 1) : CJ (c9.1, 1, i8) C n t Ps Pc T Kt N A B D Cw p' O' P' K' p O P K Ab Be Cm U Ag Bg Cg cn cc bc Ls v R k Z M' ∧ stp C Ps Pc M C Ps Pc M' := by
  obtain ⟨-, ⟨lt1, lt2⟩, -⟩ := hj.top
  have rr : ∀ x i, mR M' x i = if x = t ∧ i = 5 then mR M t 4 else if x = t ∧ i = 4 then mR M t 5 else mR M x i := fun x i => by rw [e3, mR_UI, e2, mR_UR, e1, mR_UR]
  have ii : ∀ x i, mI M' x i = if x = t ∧ i = 6 then 1 else mI M x i := fun x i => by rw [e3, mI_UI, e2, mI_UR, e1, mI_UR]
  have o : mOk M' := by rw [e3]; refine mOk_UI ?_ ⟨by decide, by decide⟩; rw [e2]; refine mOk_UR ?_; rw [e1]; exact mOk_UR hj.1
  have zz : mZ M' = mZ M ∧ mS M' = mS M := by rw [e3, mZ_UI, mS_UI, e2, mZ_UR, mS_UR, e1, mZ_UR, mS_UR]; exact ⟨rfl, rfl⟩
  have f : FC (fun x => x = t) M M' := by
    refine ⟨⟨by rw [zz.1]; exact Nat.le_refl _, by rw [zz.2]; exact Nat.le_refl _⟩, fun x _ => ⟨by rw [e3, mK_UI, e2, mK_UR, e1, mK_UR], by rw [e3, mN_UI, e2, mN_UR, e1, mN_UR], fun nx => ⟨by rw [e3, mL_UI, e2, mL_UR, e1, mL_UR], ?_, ?_⟩⟩⟩
    · funext i
      rw [rr, if_neg (fun u => nx u.1), if_neg (fun u => nx u.1)]
    · funext i
      rw [ii, if_neg (fun u => nx u.1)]
  have rt : ∀ i, i ≠ 4 → i ≠ 5 → mR M' t i = mR M t i := fun i a b => by rw [rr, if_neg (fun u => b u.2), if_neg (fun u => a u.2)]
  have it : ∀ i, i ≠ 6 → mI M' t i = mI M t i := fun i a => by rw [ii, if_neg (fun u => a u.2)]
  obtain ⟨a1, a2, a3, a4, a5, a6⟩ := hj.tonly o f zz (fun i hi => rt i (by omega) (by omega)) (it 18 (by decide)) (fun _ => by rw [ii, if_pos ⟨rfl, rfl⟩]; decide)
  obtain ⟨b1, b2, b3⟩ := top_lo hj.2.2.2.2.1 hj.2.1
  obtain ⟨-, -, -, -, n5, n6⟩ := nd_ne hj.2.2.2.2.1.2.1
  obtain ⟨w1, w2, w3, w4, w5, w6, w7, w8⟩ := hj.2.1
  obtain ⟨lp, lq⟩ := lo_p w6
  have l0 := lq 0 (by decide)
  rw [Nat.add_zero] at l0
  have n1 : ∀ y, y ≠ t → ¬ (fun x => x = t) y := fun y a b => a b
  have tz' := w4.fc o f (fun x a b => n1 x (by omega)) (n1 _ (by omega))
  obtain ⟨t1, t2, t3, t4, t5, t6, t7, t8, t9⟩ := tz'
  have pk := w5.fc f (n1 p (by omega))
  have o4 := t6.2.2.2.1
  obtain ⟨V, F, ns, sf, ef, L, cnt, hw⟩ := pw
  have hw' := hw.fc f (fun i hi => n1 _ (by omega)) (n1 _ (by omega)) (n1 _ (by omega))
  refine ⟨⟨o, ⟨⟨by rw [rt 2 (by decide) (by decide)]; exact w1.1, by rw [rt 3 (by decide) (by decide)]; exact w1.2.1, ?_, ?_⟩, w2.fc f b1 (rt 0 (by decide) (by decide)) (it 1 (by decide)), w3.fc f (n1 _ (by omega)), ⟨t1, t2, t3, t4, t5, pk, ⟨by omega, by omega⟩, ⟨n5.2.2.1, n5.2.2.2, n6.2.2.1, n6.2.2.2⟩, t9⟩, t6, ?_, fun _ => ⟨V, F, ns, sf, ef, L, cnt, hw'⟩, ?_⟩, a1, a2, a3.swp, ?_, a5⟩, a6⟩
  · rw [rr, if_neg (fun u => absurd u.2 (by decide)), if_pos ⟨rfl, rfl⟩]; exact w1.2.2.2
  · rw [rr, if_pos ⟨rfl, rfl⟩]; exact w1.2.2.1
  · rcases w6 with e | e
    · exact Or.inr ⟨e.2, e.1⟩
    · exact Or.inl ⟨e.2, e.1⟩
  · have pg' := im.2.2.2.fc f hw.1 (fun i hi => n1 _ (by omega)) (n1 _ (by omega)) (n1 _ (by omega))
    exact ⟨by rw [ii, if_pos ⟨rfl, rfl⟩], fun _ => ⟨by rw [ii, if_neg (fun u => absurd u.2 (by decide))]; exact im.1, by rw [ii, if_neg (fun u => absurd u.2 (by decide))]; exact im.2.1, by rw [ii, if_neg (fun u => absurd u.2 (by decide))]; exact im.2.2.1, pg'⟩⟩
  · unfold Rmc at a4 ⊢
    exact ⟨by omega, by omega, a4.2.2⟩
/-- the states are gone -/
theorem CJ.clr (hj : CJ c9 C n t Ps Pc T Kt N A B D Cw p O P K p' O' P' K' Ab Be Cm U Ag Bg Cg cn cc bc Ls v R k Z M) (o : mOk M') (f : FI (fun x => x = t + 62) M M') (e : ∀ i, mI M' (t + 62) i = if i = 13 then 0 else if i = 12 then 0 else if i = 0 then 0 else mI M (t + 62) i) : ∃ Ps1 Pc1, CJ c9 (Zn C M M') (n + 1) t Ps1 Pc1 T Kt N A B D Cw p O P K p' O' P' K' Ab Be Cm U Ag Bg Cg 0 0 0 Ls v R k Z M' ∧ stp C Ps Pc M (Zn C M M') Ps1 Pc1 M' := by
  have fc : FC (Yg t Ag Bg) M M' := f.fc (fun x u => by have u' : x = t + 62 := u; unfold Yg; omega)
  have ne : ∀ x, x ≠ t + 62 → mI M' x = mI M x := fun x hx => f.2.2.2.2.2.2 x hx
  have et := ne t (by omega)
  obtain ⟨g1, g2, g4, g5, g6, g7, g8, g9⟩ := hj.2.2.1.up
  exact hj.game o fc (by rw [f.2.2.1]) (by rw [et]) (by rw [et]) (by rw [et]) ⟨g1.eq2 (fun i _ => ⟨by rw [f.1], by rw [f.2.1]⟩) (fun i _ => by rw [f.2.2.1]), g2.fi f (by rw [ne _ (by omega)]), g4, by rw [ne (t + 77) (by omega), ne (t + 72) (by omega)]; exact g5, by rw [ne (t + 72) (by omega)]; exact g6, Or.inl ⟨rfl, by rw [e, if_neg (by decide), if_neg (by decide), if_pos rfl]⟩, fun u => absurd u (by decide), fun _ => ⟨rfl, rfl⟩, fun j hj => absurd hj (Nat.not_lt_zero _)⟩ (Or.inl rfl) (Or.inl rfl) (fun _ _ _ => Or.inr (Or.inr rfl)) (fun _ k hk => absurd hk (Nat.not_lt_zero _)) (by rw [f.2.2.2.2.2.1]; exact Nat.le_refl _) (by rw [f.2.2.2.2.1]; exact Nat.le_refl _) (fun u => absurd u (by decide))
/-- the tables are forgotten -/
theorem CJ.fgt (hj : CJ c9 C n t Ps Pc T Kt N A B D Cw p O P K p' O' P' K' Ab Be Cm U Ag Bg Cg cn cc bc Ls v R k Z M) : mK M t = 1 ∧ Cv G y_CA_forget d [vr t] M (fun M' => CJ c9 C n t Ps Pc T Kt N A B D Cw p O P K p' O' P' K' Ab Be Cm U Ag Bg Cg cn cc bc Ls v R k Z M' ∧ stp C Ps Pc M C Ps Pc M' ∧ mI M' t = mI M t ∧ mI M' (v 0) 1 = 0) := by
  have jn := hj.2.2.2.1
  obtain ⟨⟨z1, -⟩, -, -⟩ := hj.top
  have tv := jn.tv3
  have nt : ∀ i, i < 4 → t ≠ v i := fun i hi e => z1 (by rw [e]; exact (jn.2.1.2.2.1 i hi).1)
  refine ⟨jn.2.2.1.1, (s_CA_forget (d := d) (cn := cn) hj.1 jn.2.2.1.1 ⟨tv.1, tv.2.1.tb, tv.2.2.1.tb, tv.2.2.2.tb⟩ ⟨nt 0 (by decide), nt 1 (by decide), nt 3 (by decide)⟩).mono (fun M4 q => ?_)⟩
  obtain ⟨o4, f4, q0, q1, q3⟩ := q
  obtain ⟨a, b, -, e⟩ := hj.forget o4 f4 q0 q1 q3
  exact ⟨a, b, e, q0⟩
/-- what compile answers, out of the text's letters -/
def clR (c : Nat → Int) (N : Nat) (r p : Int) (k : Int × Int × Int × xR9) : Prop := ∃ (Mx : mM) (A B D n : Nat), spx kwx c N Mx A B D n ∧ ((r = 1 ∧ ∃ q9 : Nat, Rf (cwq kwx c N n) [50] 0 q9 ∧ p = pl0 c N n q9) ∨ ((∃ a, Rc (cwq kwx c N n) [50] 0 [] (a + 1)) ∧ ∃ sF : st9, sF = its9 (cwq kwx c N n) (pl0 c N n) (nq0 c N) (sm0 c N) (n + 1) 60 (n + 1) 0 s9c ∧ r = sF.2.2.1 ∧ (r ≠ 0 → p = sF.2.2.2) ∧ (r = 0 → k = ((sF.2.1.1 : Int), (sF.2.1.2.1 : Int), (sF.2.1.2.2.1 : Int), XpG (cwq kwx c N n, pl0 c N n, nq0 c N, sm0 c N, n + 1, sF.1, igs9 (cwq kwx c N n) (pl0 c N n) (nq0 c N) (sm0 c N) (n + 1) 60 (n + 1) 0 s9c g9c)))))
theorem spx.mv {c : Nat → Int} {nw : Nat} (h : spx kwx c N M A B D nw) (hA : mI M' A = mI M A) (hB : mI M' B = mI M B) (hD : mI M' D = mI M D) : spx kwx c N M' A B D nw := by
  unfold spx at h ⊢
  rw [hA, hB, hD]
  exact h
theorem c_CA_compile (hNS : NSx G kwx) (h : CI c9 C n t Ps Pc M) (hx : XC c9.2 M t) : Ci G y_CA_compile (d + 9) [vr t] M (fun r M' => i32 r ∧ ∃ c8 : tG9, (cQ0 c8 C n t Ps Pc M M' ∧ XC c8.2 M' t) ∧ mI M' t 1 = 0 ∧ c8.1 = c9.1 ∧ clR c9.1 (mI M t 1).toNat r (mI M' t 7) (c8.2.2.1, c8.2.2.2.1, c8.2.2.2.2.1, c8.2.2.2.2.2.1) ∧ ((r ≠ 0 ∧ c8.2 = plc c9.2 (mI M' t 7)) ∨ (r = 0 ∧ c8.2.1 = 1 ∧ c8.2.2.2.2.2.2 = ((-1, c9.2.2.2.2.2.2.1.2.1, 0), [], []) ∧ mI M' t 7 = -1))) := by
  obtain ⟨T, Kt, N, A, B, D, Cw, p, O, P, K, p', O', P', K', Ab, Be, Cm, U, Ag, Bg, Cg, cn, cc, bc, Ls, v, R, k, Z, hj⟩ := h
  have tp := hj.2.1.2.1
  have r2 := hj.2.1.1.1
  have lT : T < mZ M := tp.2.2.1.2.2
  have nT := (wo_lo hj.2.2.2.2.1 hj.2.1).2.1.1
  have tT : t ≠ T := tp.2.2.1.1
  have ch9 : ∀ j, j < N → mI M T j = c9.1 j := fun j hj => (tp.2.2.2.2 j hj).2
  have eN : (mI M t 1).toNat = N := by rw [tp.1.2.2]; exact Int.toNat_natCast _
  rw [eN]
  refine k_CA_compile hj.1 ?_
  rw [r2, tp.1.2.1, tp.1.2.2]
  refine ⟨tp.1.1, hj.2.1.2.2.1.1, (x_Wo_split (d := d) hNS hj.1 hj.2.1.2.2.1 tp.2.1.1 (by rw [tp.2.1.2]; exact tp.2.2.2.1.1) tp.2.2.2.1.2.1 tp.2.2.1.2.2).mono (fun M3 q => ?_)⟩
  obtain ⟨A1, B1, D1, Cw1, nw, o3, wf, wb, -, fa, gr, sp⟩ := q
  have sp3 := spx_cg ch9 sp
  have T3 : mI M3 T = mI M T := (fa.2 T lT).2.2.2.2 nT
  obtain ⟨Ps3, Pc3, j3, s3, -, ei3, eg3, ev3⟩ := hj.words o3 fa wb gr
  have r11 := hj.2.2.2.1.2.2.1.2.2.1.1
  have nvt : v 0 ≠ t := fun e => hj.top.1.1 (by rw [← e]; exact hj.vz)
  clear hj tp r2
  refine ⟨o3, j3.2.1.2.1.1.1, fun M7 e7 => ?_⟩
  have ev7 : mI M7 (v 0) = mI M (v 0) := by
    rw [← ev3, e7]
    funext j
    rw [mI_UI, if_neg (fun u => nvt u.1)]
  have x7 : (∀ i, i ≠ 1 → mI M7 t i = mI M t i) ∧ ∀ i, i ≤ 9 → mI M7 (t + 62 + i) = mI M (t + 62 + i) := by
    refine ⟨fun i hi => by rw [e7, mI_UI, if_neg (fun u => hi u.2), ei3], fun i hi => ?_⟩
    rw [← eg3 i hi, e7]
    funext j
    rw [mI_UI, if_neg (fun u => absurd u.1 (by omega))]
  obtain ⟨j7, s7, f7⟩ := j3.empty e7
  have pl := j3.2.2.2.2.1.2.2.1
  have wf7 := wf.fi1 f7 (show ¬ t + 2 = t by omega) (show ¬ A1 = t by have := pl.2.1; omega) (show ¬ B1 = t by have := pl.2.2.1; omega) (show ¬ D1 = t by have := pl.2.2.2; omega)
  have sp7 : spx kwx c9.1 N M7 A1 B1 D1 nw := sp3.mv (f7.2.2.2.2.2.2 A1 (show ¬ A1 = t by have := pl.2.1; omega)) (f7.2.2.2.2.2.2 B1 (show ¬ B1 = t by have := pl.2.2.1; omega)) (f7.2.2.2.2.2.2 D1 (show ¬ D1 = t by have := pl.2.2.2; omega))
  have ch7 : ∀ j, j < N → mI M7 T j = c9.1 j := fun j hj => by rw [f7.2.2.2.2.2.2 T (fun u => tT u.symm), T3]; exact ch9 j hj
  have s37 := s3.trans s7
  clear j3 s3 s7 pl
  have w7 := j7.2.1.1
  rw [w7.1, w7.2.1, w7.2.2.2]
  have wtq := wt_of ch7 sp7 wf7
  have nqo : NqO (cwq kwx c9.1 N nw) (nq0 c9.1 N) nw := fun k hk h2 => by
    have := wtq.2.1 k hk h2
    omega
  refine ⟨j7.2.1.2.2.2.1.2.2.1.1, (x_TR_translate (Nn := nw + 1) (d := d) FMx.of (Nat.le_refl _) j7.2.1.2.2.2.1 (tzw_of j7.2.2.2.2.1 j7.2.1) wf7 wtq).mono (fun x M10 q => ?_)⟩
  obtain ⟨q, tv⟩ := q
  obtain ⟨X9, ex9⟩ : ∃ X9 : xR9, X9 = XpG (cwq kwx c9.1 N nw, pl0 c9.1 N nw, nq0 c9.1 N, sm0 c9.1 N, nw + 1, (its9 (cwq kwx c9.1 N nw) (pl0 c9.1 N nw) (nq0 c9.1 N) (sm0 c9.1 N) (nw + 1) 60 (nw + 1) 0 s9c).1, igs9 (cwq kwx c9.1 N nw) (pl0 c9.1 N nw) (nq0 c9.1 N) (sm0 c9.1 N) (nw + 1) 60 (nw + 1) 0 s9c g9c) := ⟨_, rfl⟩
  obtain ⟨kk, kx⟩ : ∃ kk : Int × Int × Int × xR9 × tE9, (mI M10 p' 3, mI M10 p' 7, mI M10 p' 12, X9, ((-1, c9.2.2.2.2.2.2.1.2.1, 0), [], [])) = kk := ⟨_, rfl⟩
  have pg : x = 0 → Pgm X9 M10 p' (mR M10 p' 0) (mR M10 p' 1) := fun x0 => by
    rcases tv with ⟨e1, -⟩ | ⟨rc, ft, cs⟩
    · rw [e1] at x0
      exact absurd x0 (by decide)
    · obtain ⟨O1, P1, K1, Ab1, Be1, Cm1, V, F, ns, sf, ef, c, cnt, L, tx, -, -, -, ex, x11⟩ := id q
      have xr : x = (its9 (cwq kwx c9.1 N nw) (pl0 c9.1 N nw) (nq0 c9.1 N) (sm0 c9.1 N) (nw + 1) 60 (nw + 1) 0 s9c).2.2.1 := by rw [ex]; exact ft.1
      obtain ⟨⟨-, s3, s7, s12, s11, -, sv, sr⟩, cg⟩ := cs (xr.symm.trans x0)
      obtain ⟨b1, b2⟩ := tx.2.1.2.1
      rw [s7] at b1
      refine ⟨_, (its9 (cwq kwx c9.1 N nw) (pl0 c9.1 N nw) (nq0 c9.1 N) (sm0 c9.1 N) (nw + 1) 60 (nw + 1) 0 s9c).2.1, nw, nqo, cg, ⟨?_, ?_, s12, fun u => (x11 x0).1 (s11.mpr u)⟩, ex9⟩
      · show mI M10 p' 3 = ((vcn (its9 (cwq kwx c9.1 N nw) (pl0 c9.1 N nw) (nq0 c9.1 N) (sm0 c9.1 N) (nw + 1) 60 (nw + 1) 0 s9c).1 : Nat) : Int)
        rw [sv]
        exact s3
      · show rcn (its9 (cwq kwx c9.1 N nw) (pl0 c9.1 N nw) (nq0 c9.1 N) (sm0 c9.1 N) (nw + 1) 60 (nw + 1) 0 s9c).1 ≤ 60
        rw [sr]
        omega
  have cl : ∀ (p9 : Int) (k9 : Int × Int × Int × xR9), (x ≠ 0 → p9 = mI M10 (t + 7 + 1) 4) → (x = 0 → k9 = (kk.1, kk.2.1, kk.2.2.1, kk.2.2.2.1)) → clR c9.1 N x p9 k9 := fun p9 k9 hp9 hk9 => by
    refine ⟨M7, A1, B1, D1, nw, sp7, ?_⟩
    rcases tv with ⟨e1, q9, rf, -, pq⟩ | ⟨rc, ft, cs⟩
    · exact Or.inl ⟨e1, q9, rf, by rw [hp9 (by rw [e1]; decide)]; exact pq⟩
    · obtain ⟨O1, P1, K1, Ab1, Be1, Cm1, V, F, ns, sf, ef, c, cnt, L, tx, -, -, -, ex, -⟩ := id q
      have xr : x = (its9 (cwq kwx c9.1 N nw) (pl0 c9.1 N nw) (nq0 c9.1 N) (sm0 c9.1 N) (nw + 1) 60 (nw + 1) 0 s9c).2.2.1 := by rw [ex]; exact ft.1
      refine Or.inr ⟨rc, _, rfl, xr, fun x1 => by rw [hp9 x1]; exact ft.2 (by rw [← xr]; exact x1), fun x0 => ?_⟩
      obtain ⟨⟨-, s3, s7, s12, -⟩, -⟩ := cs (xr.symm.trans x0)
      rw [hk9 x0, ← kx, s3, s7, s12, ex9]
  clear tv sp sp3 sp7 ch7 ch9 wtq nqo
  have ix : i32 x := by
    obtain ⟨O1, P1, K1, Ab1, Be1, Cm1, V, F, ns, sf, ef, c, cnt, L, tx, -, -, -, ex, -⟩ := id q
    rw [ex]; exact (tx.1.1.1 _ _).1
  obtain ⟨O1, P1, K1, Ab1, Be1, Cm1, Ps10, Pc10, j10, s10, pw, ei10, eg10, ev10⟩ := j7.trl q
  have ev := ev10.trans ev7
  have x10 : (∀ i, i ≠ 1 → mI M10 t i = mI M t i) ∧ ∀ i, i ≤ 9 → mI M10 (t + 62 + i) = mI M (t + 62 + i) := ⟨fun i hi => by rw [ei10]; exact x7.1 i hi, fun i hi => by rw [eg10 i hi]; exact x7.2 i hi⟩
  have s110 := s37.trans s10
  clear j7 s10 s37 wf7 q
  have k10 := j10.2.1.2.1.1.1
  refine ⟨ix, j10.1, fun x0 => ⟨k10, fun M19 e19 => ⟨fun _ M24 e24 M26 e26 M28 e28 => ?_, fun u => absurd x0 u⟩⟩, fun x1 => ⟨k10, ?_⟩⟩
  · obtain ⟨j19, s19⟩ := j10.tint (j := 7) (a := -1) ⟨by decide, by decide, by decide⟩ ⟨by decide, by decide⟩ e19
    have f19 : FI (fun x => x = t) M10 M19 := by rw [e19]; exact FI.ui rfl
    obtain ⟨V, F, ns, sf, ef, L, cnt, hw⟩ := pw x0
    obtain ⟨q1, q2, -⟩ := tz_pl j10.2.1
    have lp := (lo_p j10.2.1.2.2.2.2.2.1).1
    have n1 : ∀ y, y ≠ t → ¬ (fun x => x = t) y := fun y a b => a b
    have ep : mI M19 p' = mI M10 p' := f19.2.2.2.2.2.2 p' (n1 _ (by clear j10 j19; omega))
    have hw' := hw.fc (f19.fc (Z := fun x => x = t) (fun _ u => u)) (fun i hi => n1 _ (by clear j10 j19; omega)) (n1 _ (by clear j10 j19; omega)) (n1 _ (by clear j10 j19; omega))
    have pg19 : Pgm X9 M19 p' O1 P1 := by
      have := pg x0
      rw [hw.1.2.1.1, hw.1.2.1.2] at this
      exact this.fc (f19.fc (Z := fun x => x = t) (fun _ u => u)) hw.1 (fun i hi => n1 _ (by clear j10 j19; omega)) (n1 _ (by clear j10 j19; omega)) (n1 _ (by clear j10 j19; omega))
    obtain ⟨j28, s28⟩ := j19.swp (i8 := kk) (by rw [ep, ← kx]; exact ⟨rfl, rfl, rfl, pg19⟩) ⟨V, F, ns, sf, ef, L, cnt, hw'⟩ e24 e26 e28
    clear j10 j19 hw hw' pw
    have tr := j28.2.2.2.1.2.2.1
    rw [tr.2.1.1]
    refine ⟨j28.2.2.1.1.1, (s_Ga_clear j28.1 j28.2.2.1.1.1).mono (fun M31 q => ?_)⟩
    obtain ⟨Ps31, Pc31, j31, s31⟩ := j28.clr q.1 q.2.1 q.2.2
    have t31 : ∀ i, i ≠ 6 → mI M31 t i = mI M19 t i := fun i hi => by rw [q.2.1.2.2.2.2.2.2 t (show ¬ (t = t + 62) by omega), e28, mI_UI, if_neg (fun u => hi u.2), e26, mI_UR, e24, mI_UR]
    obtain ⟨a1, a2⟩ := j31.fgt (G := G) (d := d + 8)
    refine ⟨q.1, a1, a2.mono (fun M35 w => ?_)⟩
    obtain ⟨w1, w2, w3, w4⟩ := w
    have t7 : mI M35 t 7 = -1 := by rw [w3, t31 7 (by decide), e19, mI_UI, if_pos ⟨rfl, rfl⟩]
    have t8 : mI M35 t 8 = c9.2.2.2.2.2.2.1.2.1 := by rw [w3, t31 8 (by decide), e19, mI_UI, if_neg (fun u => absurd u.2 (by decide)), x10.1 8 (by decide)]; exact hx.2.1.1
    have g0 : mI M35 (t + 62) 0 = 0 := w1.top.2.2
    refine ⟨w1.1, ix, (c9.1, 1, kk), ⟨w1.q (s110.trans (s19.trans (s28.trans (s31.trans w2)))), ?_⟩, by rw [w1.2.1.2.1.1.2.2]; rfl, rfl, cl _ _ (fun u => absurd x0 u) (fun _ => rfl), Or.inr ⟨x0, rfl, by rw [← kx], t7⟩⟩
    show XC (1, kk) M35 t
    unfold XC
    rw [← kx]
    exact ⟨t7, ⟨t8, by rw [w1.2.2.2.1.2.2.1.2.2.1.1]; exact w4⟩, g0, fun _ => rfl, fun u => absurd rfl u⟩
  · have tz := j10.2.1.2.2.2.1
    have w10 := j10.2.1.1
    rw [w10.2.1]
    refine ⟨tz.2.2.1.1, k_TR_faultPlace j10.1 ?_⟩
    rw [tz.2.2.1.2.1]
    refine ⟨tz.2.2.1.1, tz.2.1.1, (j10.1 _ _).1, j10.1, k10, fun M44 e44 => ⟨fun u => absurd u x1, fun _ => ⟨ix, ?_⟩⟩⟩
    obtain ⟨j44, s44⟩ := j10.tint (j := 7) ⟨by decide, by decide, by decide⟩ (j10.1 _ _).1 e44
    have t7 : mI M44 t 7 = mI M10 (t + 7 + 1) 4 := by rw [e44, mI_UI, if_pos ⟨rfl, rfl⟩]
    have t8 : mI M44 t 8 = mI M t 8 := by rw [e44, mI_UI, if_neg (fun u => absurd u.2 (by decide))]; exact x10.1 8 (by decide)
    have tg : ∀ i, i ≤ 9 → mI M44 (t + 62 + i) = mI M (t + 62 + i) := fun i hi => by
      rw [← x10.2 i hi, e44]
      funext j
      rw [mI_UI, if_neg (fun u => absurd u.1 (by omega))]
    have g0 := tg 0 (by decide)
    rw [Nat.add_zero] at g0
    obtain ⟨x1', x2', x3', x4', x5'⟩ := hx
    have k44 : mI M44 (mR M44 t 11) 1 = c9.2.2.2.2.2.2.1.2.2 := by
      rw [j44.2.2.2.1.2.2.1.2.2.1.1, e44, mI_UI, if_neg (fun u => nvt u.1), ev, ← r11]
      exact x2'.2
    exact ⟨(c9.1, plc c9.2 (mI M44 t 7)), ⟨(j44.up.q (s110.trans s44)).e9, rfl, ⟨by rw [t8]; exact x2'.1, k44⟩, by rw [g0]; exact x3', x4', fun u => XC.tb (x5' u) (fun i hi _ => tg i hi)⟩, by rw [j44.2.1.2.1.1.2.2]; rfl, rfl, cl _ _ (fun _ => t7) (fun u => absurd u x1), Or.inl ⟨x1, rfl⟩⟩
end NDD
