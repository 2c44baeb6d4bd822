section
section
/-! The class's reader of texts, exactly: a var as an item. -/
section TXY
variable {G : mG} {d z q w T A B D N C n p O P K Ab Be Cm V F c L cnt a nw k e i j b Nn sl x y : Nat} {M0 M M' M1 M2 : mM} {ns : Nat → Int} {sf ef : Nat → Nat} {H : Nat → Nat} {W pl nq E : Nat → Int} {Cf : Nat → Int × Int} {sm : Nat → Nat → Prop} {s s' : st9} {ft f2 X I : Int × Int} {tr : Int} {g : gm9}
theorem ec_1 (ec : ECq M (q + 1) p n W nq sm s.1 c 1 E Cf) (ct : CT M (q + 1) p s.1) (hl : s.1.length = c) : E = E9 sm s.1 1 := by
  have u := (ec.2 ct hl).1
  rw [if_neg (by decide)] at u
  exact u
theorem rw_mk (wt : WTq M1 T A B D n W pl nq sm) (h : TX M1 z q w T A B D N C n p O P K Ab Be Cm V F ns sf ef c cnt L) (ec : ECq M (q + 1) p n W nq sm s.1 c 1 E Cf) (ct : CT M (q + 1) p s.1) (hl : s.1.length = c) (tx : txF M q p O P 0 M1) (rv : rvQz W pl Cf q O P k x y b M1) (eo : Eo W 6 x y) (hz : (vrf W E pl tr x y).1 = 0) : rwE W pl (cvn W nq sm s.1 n) q p O P b k x y tr M1 := by
  have h9 : ∀ i, i < c → mI M1 (q + 1 + 9) i = 0 ∨ mI M1 (q + 1 + 9) i = 1 := fun i hi => (h.2.1.2.2.1.2.2 i hi).2.2
  exact ⟨E, Cf, rv, lf_ex wt (ec.fw ct tx.2) (ct.tx tx.2) hl h9, eo, (vrf_z hz).1, (vrf_z hz).2⟩
theorem Eo.no9 {v : Int} (eo : Eo W 6 x y) (hv : v = 9 ∨ v = 16 ∨ v = 17) (h1 : x ≤ j) (h2 : j < y) : W j ≠ v := fun u => by
  have r := eo.rw9 h1 h2
  unfold rwd at r
  omega
/-- what a var's values keep to, if none is at fault -/
theorem sv9_bd {t8 i7 p0 p1 p2 : Int} {lo hi be : vrs} (h8 : t8 = 0 ∨ t8 = 1) (h : (sv9 t8 i7 lo hi be p0 p1 p2).1 = 0) (g01 : t8 = 0 → vgd 0 lo ∧ vgd 0 hi) (g2 : i7 ≠ 0 → vgd t8 be) : ((if t8 = 1 then (0 : Int) else lo.2.1).natAbs ≤ 999999999 ∧ (if t8 = 1 then (1 : Int) else hi.2.1).natAbs ≤ 999999999) ∧ ((if t8 = 1 then (0 : Int) else lo.2.1) ≤ (if i7 = 0 then (if t8 = 1 then (0 : Int) else lo.2.1) else be.2.1) ∧ (if i7 = 0 then (if t8 = 1 then (0 : Int) else lo.2.1) else be.2.1) ≤ (if t8 = 1 then (1 : Int) else hi.2.1)) ∧ (t8 = 1 → (if t8 = 1 then (0 : Int) else lo.2.1) = 0 ∧ (if t8 = 1 then (1 : Int) else hi.2.1) = 1) := by
  unfold sv9 at h
  obtain ⟨h1, h2⟩ := fst9_1.mp h
  rcases h8 with e | e
  · have n1 : ¬ t8 = 1 := by omega
    rw [if_neg n1] at h1 h2
    rw [if_neg n1, if_neg n1]
    obtain ⟨h3, h4⟩ := fst9_1.mp h1
    obtain ⟨h5, h6⟩ := fst9_1.mp h3
    have l0 := (wh9_z h5).1
    have h0 := (wh9_z h6).1
    obtain ⟨g0, g1⟩ := g01 e
    have b0 := (g0.resolve_right (fun u => by omega)).2.1
    have b1 := (g1.resolve_right (fun u => by omega)).2.1
    have c1 : lo.2.1 ≤ hi.2.1 := Classical.byContradiction (fun u => by
      rw [if_neg (fun v => u v.1)] at h4
      exact absurd h4 (by simp))
    refine ⟨⟨b0, b1⟩, ?_, fun u => absurd u n1⟩
    by_cases i0 : i7 = 0
    · rw [if_pos i0]
      exact ⟨Int.le_refl _, c1⟩
    · rw [if_neg i0] at h2 ⊢
      obtain ⟨-, h8⟩ := fst9_1.mp h2
      exact Classical.byContradiction (fun u => by
        rw [if_neg u] at h8
        exact absurd h8 (by simp))
  · rw [if_pos e] at h2
    rw [if_pos e, if_pos e]
    refine ⟨⟨by decide, by decide⟩, ?_, fun _ => ⟨rfl, rfl⟩⟩
    by_cases i0 : i7 = 0
    · rw [if_pos i0]
      exact ⟨by decide, by decide⟩
    · rw [if_neg i0] at h2 ⊢
      have z := wh9_z h2
      have g := (g2 i0).resolve_right (fun u => by omega)
      have t := (g.2.2.2.2 e).1
      omega
theorem x_st_var (hFx : FMx G) (h0 : TX M z q w T A B D N C n p O P K Ab Be Cm V F ns sf ef c cnt L) (h : TX M1 z q w T A B D N C n p O P K Ab Be Cm V F ns sf ef c cnt L) (hv : vrS M1 q A n p L sl a nw V) (h8 : mI M1 q 8 = 0 → rvR M1 q O P F ns L sl 0 ∧ rvR M1 q O P F ns L sl 1) (h7 : mI M1 q 7 ≠ 0 → rvR M1 q O P F ns L sl 2) (zs : itZ q p s M) (wt : WTq M1 T A B D n W pl nq sm) (w4 : W k = 4) (hNn : n ≤ Nn) (va : vaV W pl nq sm M q p O P n c V k s.1 s.2.2 1 M1) (hp0 : mI M p 2 = ((L : Nat) : Int)) (cg : s.2.2.1 = 0 → CGm M p O P W pl nq sm Nn n s g) : ∃ e, mI M1 (q + 1) 2 = ((e + 1 : Nat) : Int) ∧ Rc W [50] 0 [50] (e + 1) ∧ k ≤ e ∧ nxq W 34 Nn k = e ∧ Cv G y_TR_settleVar (d + 6) [vr q] M1 (fun M' => itE M1 z q w T A B D N C n p O P K Ab Be Cm M' ∧ itZ q p (sN W pl nq sm Nn k s) M' ∧ mI M' (q + 1) 2 = ((a : Nat) : Int) ∧ ((sN W pl nq sm Nn k s).2.2.1 = 0 → CGm M' p O P W pl nq sm Nn n (sN W pl nq sm Nn k s) (igm9 W pl nq sm Nn s.1 k g))) := by
  obtain ⟨a', ea', va⟩ := va
  obtain ⟨-, ⟨w1, w33⟩, q3, rc, e, i, b, f2, X, I, ae, w34, ⟨pb, tx, txO⟩, kn, hFT, bo, ini⟩ := va.resolve_left (fun u => absurd u.1 (by first | decide | simp))
  clear va
  have esl : sl = b := by
    have := hv.1
    rw [pb] at this
    omega
  have hnw : nw = k + 1 := by
    have := hv.2.2.2.2.2.2.1
    rw [q3] at this
    omega
  have een : e + 1 ≤ n := by
    have u1 := hv.2.2.2.1
    have u2 := hv.2.2.2.2.1
    rw [ea', ae] at u1
    clear bo ini
    omega
  subst esl
  have n3 : no34 W k (k + 3) := (((no34.nil : no34 W k k).sc (by rw [w4]; decide)).sc (by rw [w1]; decide)).sc (by rw [w33]; decide)
  have ni : no34 W k i := by
    rcases bo with ⟨w5, ei, -, -⟩ | ⟨-, -, j, E0, E1, C0, C1, eo0, w16, eo1, -⟩
    · rw [ei]
      exact n3.sc (by rw [w5]; decide)
    · exact ((n3.eo eo0).sc (by rw [w16]; decide)).eo eo1
  have ie : i ≤ e := by
    rcases ini with ⟨-, ei, -, -⟩ | ⟨-, -, E2, C2, eo2, -⟩
    · omega
    · have := eo2.pr.1
      omega
  have ne : no34 W k e := by
    rcases ini with ⟨-, ei, -, -⟩ | ⟨w9, -, E2, C2, eo2, -⟩
    · rw [← ei]
      exact ni
    · exact (ni.sc (by rw [w9]; decide)).eo eo2
  have nx : nxq W 34 Nn k = e := nxq_34 ne w34 (by
    clear bo ini
    omega)
  refine ⟨e, by rw [← ae]; exact ea', by rw [← ae]; exact rc, ne.1, nx, ?_⟩
  by_cases f0 : s.2.2.1 = 0
  · have cs := zs.2 f0
    have ct := cs.1
    obtain ⟨hl, eV, eF, eC⟩ := cs.len h0
    have V12 : V ≤ 12 := h.2.1.1.2
    have cs1 := cs.tx tx.2
    have kn := kn ct hl
    rw [fst9_zr f0] at hFT
    have bo' : ∃ j, (W (k + 3) ≠ 5 → nxq W 16 Nn (k + 3) = j) ∧ (mI M1 q 8 = if W (k + 3) = 5 then 1 else 0) ∧ (X = if W (k + 3) = 5 then (0, 0) else fst9 (rf9 W pl sm s.1 1 0 (k + 3) j) (rf9 W pl sm s.1 1 0 (j + 1) i)) ∧ ((if W (k + 3) = 5 then k + 4 else nxq W 9 (e - (k + 3)) (k + 3)) = i) ∧ (X.1 = 0 → mI M1 q 8 = 0 → rwE W pl (cvn W nq sm s.1 n) q p O P sl 0 (k + 3) j 0 M1 ∧ rwE W pl (cvn W nq sm s.1 n) q p O P sl 1 (j + 1) i 0 M1) ∧ (W (k + 3) ≠ 5 → vlq W (cvn W nq sm s.1 n) pl 0 0 (k + 3) j = vlq W (cv9 W nq sm s.1) pl 0 0 (k + 3) j ∧ vlq W (cvn W nq sm s.1 n) pl 0 0 (j + 1) i = vlq W (cv9 W nq sm s.1) pl 0 0 (j + 1) i) := by
      rcases bo with ⟨w5, ei, q8, eX⟩ | ⟨w5, q8, j, E0, E1, C0, C1, eo0, w16, eo1, ec0, ec1, eX, rv0, rv1⟩
      · exact ⟨0, fun u => absurd w5 u, by rw [if_pos w5]; exact q8, by rw [if_pos w5]; exact eX, by rw [if_pos w5]; exact ei.symm, fun _ u => by rw [q8] at u; exact absurd u (by first | decide | simp), fun u => absurd w5 u⟩
      · have a0 := eo0.pr.1
        have a1 := eo1.pr.1
        have x0 := ec_1 ec0 ct hl
        have x1 := ec_1 ec1 ct hl
        have eX' : X = fst9 (rf9 W pl sm s.1 1 0 (k + 3) j) (rf9 W pl sm s.1 1 0 (j + 1) i) := by
          rw [eX, x0, x1]
          rfl
        have no9 : ∀ t, k + 3 ≤ t → t < i → W t ≠ 9 := fun t t1 t2 => by
          by_cases c1 : t < j
          · exact eo0.no9 (Or.inl rfl) t1 c1
          · by_cases c2 : t = j
            · rw [c2, w16]; decide
            · exact eo1.no9 (Or.inl rfl) (by omega) t2
        refine ⟨j, fun _ => nxq_at (by omega) (by clear ini; omega) w16 (fun t t1 t2 => eo0.no9 (Or.inr (Or.inl rfl)) t1 t2), by rw [if_neg w5]; exact q8, by rw [if_neg w5]; exact eX', ?_, fun u _ => ?_, fun _ => ⟨cv_eq (by clear ini; omega) eo0, cv_eq (by clear ini; omega) eo1⟩⟩
        · rw [if_neg w5]
          rcases ini with ⟨-, ei, -, -⟩ | ⟨w9, -, E2, C2, eo2, -⟩
          · rw [nxq_no (fun t t1 t2 => no9 t t1 (by omega))]
            omega
          · exact nxq_at (by omega) (by omega) w9 no9
        · rw [eX] at u
          obtain ⟨u0, u1⟩ := fst9_1.mp u
          exact ⟨rw_mk wt h ec0 ct hl tx rv0 eo0 u0, rw_mk wt h ec1 ct hl tx rv1 eo1 u1⟩
    obtain ⟨j, hj, q8, eX, hi9, r01, vlo⟩ := bo'
    clear bo
    have ini' : (mI M1 q 7 = if W i = 9 then 1 else 0) ∧ (I = if W i = 9 then rf9 W pl sm s.1 1 (mI M1 q 8) (i + 1) e else (0, 0)) ∧ (I.1 = 0 → mI M1 q 7 ≠ 0 → rwE W pl (cvn W nq sm s.1 n) q p O P sl 2 (i + 1) e (mI M1 q 8) M1) ∧ (W i = 9 → vlq W (cvn W nq sm s.1 n) pl 0 0 (i + 1) e = vlq W (cv9 W nq sm s.1) pl 0 0 (i + 1) e) := by
      rcases ini with ⟨w9, ei, q7, eI⟩ | ⟨w9, q7, E2, C2, eo2, ec2, eI, rv2⟩
      · exact ⟨by rw [if_neg w9]; exact q7, by rw [if_neg w9]; exact eI, fun _ u => absurd q7 u, fun u => absurd u w9⟩
      · have x2 := ec_1 ec2 ct hl
        refine ⟨by rw [if_pos w9]; exact q7, ?_, fun u _ => ?_, fun _ => cv_eq (by omega) eo2⟩
        · rw [if_pos w9, eI, x2]
          rfl
        · rw [eI] at u
          exact rw_mk wt h ec2 ct hl tx rv2 eo2 u
    obtain ⟨q7, eI, r2, vbe⟩ := ini'
    clear ini
    obtain ⟨p1, p2⟩ := itc_v (W := W) (pl := pl) (nq := nq) (sm := sm) (Nn := Nn) (k := k) (e := e) (s := s) (nV := V) (t8 := mI M1 q 8) (i7 := mI M1 q 7) (lo := vlq W (cvn W nq sm s.1 n) pl 0 0 (k + 3) j) (hi := vlq W (cvn W nq sm s.1 n) pl 0 0 (j + 1) i) (be := vlq W (cvn W nq sm s.1 n) pl 0 0 (i + 1) e) eV V12 kn hi9 hj q8 q7 eX eI (fun u => (vlo u).1) (fun u => (vlo u).2) vbe
    have es := sN_v (pl := pl) (nq := nq) (sm := sm) f0 w4 nx
    rw [← es] at p1 p2
    generalize sN W pl nq sm Nn k s = s' at p1 p2 ⊢
    rw [← hnw] at p2
    have zX : ∀ {A B : Int × Int}, (fst9 (fst9 (fst9 A B) X) I).1 = 0 → X.1 = 0 ∧ I.1 = 0 := fun u => ⟨(fst9_1.mp (fst9_1.mp u).1).2, (fst9_1.mp u).2⟩
    refine (x_TR_settleVar (x0 := k + 3) (y0 := j) (x1 := j + 1) (y1 := i) (x2 := i + 1) (y2 := e) (s := s) (s' := s') (cv := cvn W nq sm s.1 n) (W := W) (pl := pl) hFx h hv h8 h7 hFT (fun _ => cs1) (fun u v => r01 (zX u).1 v) (fun u v => r2 (zX u).2 v) rfl rfl rfl p1 (fun u v => (p2 u).1 v) (fun u v => (p2 u).2 v)).mono (fun M' kk => ⟨kk.1, kk.2.1, kk.2.2.1, fun z => ?_⟩)
    have u := Classical.byContradiction (fun u => u (by have q := p1 u; rw [q] at z; exact z))
    have zz := zX u
    have r01 := r01 zz.1
    have r2 := r2 zz.2
    have s0 := Classical.byContradiction (fun v => v (by have q := (p2 u).1 v; rw [q] at z; exact z))
    have es' := (p2 u).2 s0
    have sz := kk.2.2.2 z
    have ig : igm9 W pl nq sm Nn s.1 k g = (g.1 ++ [var9 W pl nq sm Nn s.1 k e], g.2) := by
      unfold igm9
      rw [if_neg (by omega), if_pos w4, nx]
    have h801 : mI M1 q 8 = 0 ∨ mI M1 q 8 = 1 := hv.2.2.2.2.2.2.2.2.2.2.1
    have vr : var9 W pl nq sm Nn s.1 k e = ((if mI M1 q 8 = 1 then 0 else (vlq W (cvn W nq sm s.1 n) pl 0 0 (k + 3) j).2.1), (if mI M1 q 8 = 1 then 1 else (vlq W (cvn W nq sm s.1 n) pl 0 0 (j + 1) i).2.1), (if mI M1 q 7 = 0 then (if mI M1 q 8 = 1 then 0 else (vlq W (cvn W nq sm s.1 n) pl 0 0 (k + 3) j).2.1) else (vlq W (cvn W nq sm s.1 n) pl 0 0 (i + 1) e).2.1)) := by
      unfold var9
      simp only [hi9]
      by_cases w5 : W (k + 3) = 5
      · rw [if_pos w5] at q8
        simp only [w5, q8, if_true]
        by_cases w9 : W i = 9
        · rw [if_pos w9] at q7
          rw [if_pos w9, if_neg (by rw [q7]; decide), vbe w9]
        · rw [if_neg w9] at q7
          rw [if_neg w9, if_pos q7]
      · rw [if_neg w5] at q8
        have n8 : ¬ mI M1 q 8 = 1 := by omega
        obtain ⟨vl1, vl2⟩ := vlo w5
        rw [if_neg w5, if_neg w5, if_neg n8, if_neg n8, hj w5, vl1, vl2]
        by_cases w9 : W i = 9
        · rw [if_pos w9] at q7
          rw [if_pos w9, if_neg (by rw [q7]; decide), vbe w9]
        · rw [if_neg w9] at q7
          rw [if_neg w9, if_pos q7]
    rw [ig, vr]
    rw [es']
    unfold svN
    rw [hnw]
    have bd := sv9_bd h801 s0 (fun y => ⟨(r01 y).1.gd, (r01 y).2.gd⟩) (fun y => (r2 y).gd)
    exact CGm.var (cg f0) hp0 tx.2.2.2.2.2.1 (tx.2.2.2.2.1 11 (by decide)) (fun t ht => txO t (by rw [hp0]; omega)) sz (by rw [cs.2.2.2.2.2.2.1, eV]) h801 bd.1 bd.2.1 bd.2.2
  · rw [sN_n f0]
    rw [fst9_n f0, fst9_n f0, fst9_n f0, fst9_n f0] at hFT
    exact (x_TR_settleVar (x0 := 0) (y0 := 0) (x1 := 0) (y1 := 0) (x2 := 0) (y2 := 0) (s := s) (s' := s) (cv := cvn W nq sm s.1 n) (W := W) (pl := pl) hFx h hv h8 h7 hFT (fun u => absurd u f0) (fun u => absurd u f0) (fun u => absurd u f0) rfl rfl rfl (fun _ => rfl) (fun u => absurd u f0) (fun u => absurd u f0)).mono (fun M' kk => ⟨kk.1, kk.2.1, kk.2.2.1, fun z => absurd z f0⟩)
end TXY
end
section
/-! The class's reader of texts, exactly: a target and a command as items. -/
section TXZ
variable {G : mG} {d z q w T A B D N C n p O P K Ab Be Cm V F c L cnt a k e i j b Nn : Nat} {M0 M M' M1 M2 : mM} {ns : Nat → Int} {sf ef : Nat → Nat} {W pl nq E : Nat → Int} {Cf : Nat → Int × Int} {sm : Nat → Nat → Prop} {s s' : st9} {ft : Int × Int} {g : gm9} {cnt1 L1 : Nat}
theorem itZ.mk (hF : FT M (q + 1) ft) (h1 : ft.1 ≠ 0 → s'.2.2 = ft) (h2 : ft.1 = 0 → s'.2.2 = (0, 0) ∧ CSm M q p s') : itZ q p s' M := by
  by_cases f0 : ft.1 = 0
  · obtain ⟨e1, e2⟩ := h2 f0
    refine ⟨?_, fun _ => e2⟩
    rw [e1]
    exact FT.zz (by rw [hF.1]; exact f0)
  · exact itZ.bad (by rw [h1 f0]; exact hF) (by rw [h1 f0]; exact f0)
theorem x_st_target (h0 : TX M z q w T A B D N C n p O P K Ab Be Cm V F ns sf ef c cnt L) (zs : itZ q p s M) (w11 : W k = 11) (hNn : n ≤ Nn) (ha : mI M1 (q + 1) 2 = ((a : Nat) : Int)) (han : a ≤ n) (tg : tgV W pl nq sm M q p O P n c L k s.1 (fst9 s.2.2 (if mI M p 11 = -1 then (0, 0) else (4, pl k))) 1 M1) (hp0 : mI M p 2 = ((L : Nat) : Int)) (cg : s.2.2.1 = 0 → CGm M p O P W pl nq sm Nn n s g) : ∃ e, mI M1 (q + 1) 2 = ((e + 1 : Nat) : Int) ∧ Rc W [50] 0 [50] (e + 1) ∧ k ≤ e ∧ nxq W 34 Nn k = e ∧ itZ q p (sN W pl nq sm Nn k s) M1 ∧ ((sN W pl nq sm Nn k s).2.2.1 = 0 → CGm M1 p O P W pl nq sm Nn n (sN W pl nq sm Nn k s) (igm9 W pl nq sm Nn s.1 k g)) := by
  obtain ⟨a', ea', tg⟩ := tg
  obtain ⟨-, p11, e, E, Cf, ae, eo, w34, rc, ec, hFT, tk, td⟩ := tg.resolve_left (fun u => absurd u.1 (by first | decide | simp))
  clear tg
  have een : e + 1 ≤ n := by
    rw [ea', ae] at ha
    omega
  have ne : no34 W k e := ((no34.nil : no34 W k k).sc (by rw [w11]; decide)).eo eo
  have nx : nxq W 34 Nn k = e := nxq_34 ne w34 (by omega)
  refine ⟨e, by rw [← ae]; exact ea', rc, ne.1, nx, ?_⟩
  rw [fst9_as] at hFT
  by_cases f0 : s.2.2.1 = 0
  · have cs := zs.2 f0
    have ct := cs.1
    obtain ⟨hl, eV, eF, eC⟩ := cs.len h0
    have e9 : E = E9 sm s.1 0 := by
      have u := (ec.2 ct hl).1
      rw [if_pos rfl] at u
      exact u
    rw [fst9_zr f0, e9] at hFT
    have et : (if mI M p 11 = -1 then ((0 : Int), (0 : Int)) else (4, pl k)) = if s.2.1.2.2.2 = 0 then (0, 0) else (4, pl k) := by
      by_cases c1 : s.2.1.2.2.2 = 0
      · rw [if_pos c1, if_pos (cs.2.2.2.2.1.mpr c1)]
      · rw [if_neg c1, if_neg (fun u => c1 (cs.2.2.2.2.1.mp u))]
    rw [et] at hFT
    obtain ⟨p1, p2⟩ := itc_t (W := W) (pl := pl) (sm := sm) (k := k) (e := e) (s := s) rfl
    have es := sN_t (pl := pl) (nq := nq) (sm := sm) f0 w11 nx
    rw [es]
    have ig : igm9 W pl nq sm Nn s.1 k g = (g.1, some (k + 1, e), g.2.2) := by
      unfold igm9
      rw [if_neg (by omega), if_neg (by omega), if_pos w11, nx]
    rw [ig]
    refine ⟨itZ.mk hFT p1 (fun u => ?_), fun z => ?_⟩
    rotate_left
    · have u := Classical.byContradiction (fun u => u (by have q := p1 u; rw [q] at z; exact z))
      rw [p2 u]
      have fz := (fst9_1.mp u).2
      rw [e9] at ec
      exact CGm.target (cg f0) hp0 eo (by omega) (ec.lf ct hl (fun i hi => (h0.2.1.2.2.1.2.2 i hi).2.2)) (fst9_1.mp fz).1 td
    rw [p2 u]
    obtain ⟨c1, c2, c3, c4, c5, c6⟩ := cs
    refine ⟨rfl, c1.tg tk, ?_, ?_, ?_, ⟨fun v => absurd v p11, fun v => absurd v (by first | decide | simp)⟩, c6⟩
    · rw [tk.2.2.1 3 (by decide) (by decide)]; exact c2
    · rw [tk.2.2.1 7 (by decide) (by decide)]; exact c3
    · rw [tk.2.2.1 12 (by decide) (by decide)]; exact c4
  · rw [sN_n f0]
    rw [fst9_n f0, fst9_n f0] at hFT
    exact ⟨itZ.bad hFT f0, fun z => absurd z f0⟩
theorem x_st_cmd (h0 : TX M z q w T A B D N C n p O P K Ab Be Cm V F ns sf ef c cnt L) (zs : itZ q p s M) (w7 : W k = 7 ∨ W k = 8) (hNn : n ≤ Nn) (ha : mI M1 (q + 1) 2 = ((a : Nat) : Int)) (han : a ≤ n) (cc : ccV W pl nq sm Nn n V O P L M q p c cnt k s.1 (fst9 s.2.2 (if cnt < 60 then (0, 0) else (5, pl k))) 1 M1) (hp0 : mI M p 2 = ((L : Nat) : Int)) (h1' : TX M1 z q w T A B D N C n p O P K Ab Be Cm V F ns sf ef c cnt1 L1) (cg : s.2.2.1 = 0 → CGm M p O P W pl nq sm Nn n s g) : ∃ e, mI M1 (q + 1) 2 = ((e + 1 : Nat) : Int) ∧ Rc W [50] 0 [50] (e + 1) ∧ k ≤ e ∧ nxq W 34 Nn k = e ∧ itZ q p (sN W pl nq sm Nn k s) M1 ∧ ((sN W pl nq sm Nn k s).2.2.1 = 0 → CGm M1 p O P W pl nq sm Nn n (sN W pl nq sm Nn k s) (igm9 W pl nq sm Nn s.1 k g)) := by
  obtain ⟨a', ea', cc⟩ := cc
  obtain ⟨-, ar, ix, E, hix, eo, w17, hE, a2, ea2, cm⟩ := cc.resolve_left (fun u => absurd u.1 (by first | decide | simp))
  clear cc
  obtain ⟨-, e, fB, ae, w34, ne, rc, hFT, hB, k19, k69, kp, k6, k7, bN, hb8, cr⟩ := cm.resolve_left (fun u => absurd u.1 (by first | decide | simp))
  clear cm
  have een : e + 1 ≤ n := by
    rw [ea2, ae] at ha
    omega
  have nx : nxq W 34 Nn k = e := nxq_34 ne w34 (by
    clear hB
    omega)
  have ale : ar ≤ e := by
    have u := eo.pr.1
    by_cases c : ar ≤ e
    · exact c
    · have v := eo.rw9 (j := e) (by
        have := ne.1
        by_cases c2 : k = e
        · rw [← c2] at w34
          rcases w7 with x | x <;> rw [w34] at x <;> exact absurd x (by first | decide | simp)
        · omega) (by omega)
      unfold rwd at v
      rw [w34] at v
      clear hB
      omega
  have hr : nxq W 17 Nn (k + 1) = ar := nxq_at (Nat.le_of_lt eo.pr.1) (by
    clear hB
    omega) w17 (fun t t1 t2 => eo.no9 (Or.inr (Or.inr rfl)) t1 t2)
  refine ⟨e, by rw [← ae]; exact ea2, rc, ne.1, nx, ?_⟩
  by_cases f0 : s.2.2.1 = 0
  · have cs := zs.2 f0
    have ct := cs.1
    obtain ⟨hl, eV, eF, eC⟩ := cs.len h0
    have c60 : cnt ≤ 60 := h0.2.2.1.2
    have e9 := hE ct hl
    obtain ⟨b1, b2⟩ := hB ct hl
    rw [fst9_zr f0, e9] at hFT
    obtain ⟨p1, p2⟩ := itc_c (W := W) (pl := pl) (sm := sm) (Nn := Nn) (k := k) (e := e) (ar := ar) (s := s) (nC := cnt) (f := vrf W (E9 sm s.1 0) pl 1 (k + 1) ar) (fB := fB) eC c60 hr rfl b1 b2
    have es := sN_c (pl := pl) (nq := nq) (sm := sm) f0 w7 nx
    rw [es]
    have ig : igm9 W pl nq sm Nn s.1 k g = (g.1, g.2.1, g.2.2 ++ [cmd9 W pl sm Nn s.1 k e]) := by
      unfold igm9
      rw [if_neg (by omega), if_neg (by omega), if_neg (by omega), nx]
    rw [ig]
    refine ⟨itZ.mk hFT p1 (fun u => ?_), fun z => ?_⟩
    rotate_left
    · have u := Classical.byContradiction (fun u => u (by have q := p1 u; rw [q] at z; exact z))
      rw [p2 u]
      have z3 : mI M1 (q + 1) 3 = 0 := by rw [hFT.1]; exact u
      exact CGm.cmd (cg f0) hp0 eC (by rw [cs.2.2.2.2.2.2.1, eV]) cr ct hl z3 ne w34 hr (hb8 (fst9_1.mp u).2) (fun v hv => by
        have v9 := (fst9_1.mp (fst9_1.mp u).1).1
        have c6' : cnt < 60 := by
          by_cases c1 : cnt < 60
          · exact c1
          · rw [if_neg c1] at v9
            exact absurd v9 (by first | decide | simp)
        have eix := hix c6'
        obtain ⟨u', hu', pg⟩ := h1'.2.2.2 z3
        obtain ⟨uu, e1, -, e3⟩ := pg.2.2.2.2.2.1
        have a9 := h1'.2.2.1.1
        rw [kp 12 (by decide), if_pos rfl] at a9
        have c1 : cnt1 = cnt + 1 := by omega
        rw [c1, hv] at e1
        omega)
    rw [p2 u]
    have c6' : cnt < 60 := by
      have v := (fst9_1.mp (fst9_1.mp u).1).1
      by_cases c1 : cnt < 60
      · exact c1
      · rw [if_neg c1] at v
        exact absurd v (by first | decide | simp)
    have eix := hix c6'
    obtain ⟨c1, c2, c3, c4, c5, c6⟩ := cs
    refine ⟨rfl, c1.cg k19 (k69 6 (by decide) (by decide)) (k69 7 (by decide) (by decide)) (k69 8 (by decide) (by decide)) (k69 9 (by decide) (by decide)) k6 k7, ?_, ?_, ?_, ?_, c6⟩
    · rw [kp 3 (by decide), if_neg (by decide)]; exact c2
    · rw [kp 7 (by decide), if_neg (by decide)]; exact c3
    · rw [kp 12 (by decide), if_pos rfl]
      show (ix : Int) + 1 = ((s.2.1.2.2.1 + 1 : Nat) : Int)
      clear hB hix c5
      omega
    · rw [kp 11 (by decide), if_neg (by decide)]; exact c5
  · rw [sN_n f0]
    rw [fst9_n f0, fst9_n f0, fst9_n f0] at hFT
    exact ⟨itZ.bad hFT f0, fun z => absurd z f0⟩
end TXZ
end
end
section
/-! The class's reader of texts, exactly: translate. -/
section TYA
variable {G : mG} {d z q w T A B D N C n p O P K Ab Be Cm V F c s0 L cnt a k e i f Nn Ab0 Be0 Cm0 : Nat} {M0 M M' M1 M2 : mM} {ns : Nat → Int} {sf ef : Nat → Nat} {W pl nq : Nat → Int} {sm : Nat → Nat → Prop} {s s' R : st9} {g Rg : gm9}
theorem TP.wtr (h : TP M z q w T A B D N C n p O P K Ab Be Cm) (f : FA (trS q p O P Ab Be) (fun x => x = q + 11) M M') (wt : WTq M T A B D n W pl nq sm) : WTq M' T A B D n W pl nq sm := by
  have key : ∀ x, (x = w ∨ x = T ∨ x = A ∨ x = B ∨ x = D) → mI M' x = mI M x := fun x hx => by
    have ap := h.apart
    obtain ⟨⟨-, -, -, -, -, b6, -⟩, -, -, -, -, ⟨-, -, s3⟩, -⟩ := h
    obtain ⟨u1, u2, u3, u4⟩ := s3 x hx
    have v := b6.2.2 x hx
    refine (f.2 x u4).2.2.2.2 (fun y => ?_)
    rcases y with y | y
    · exact t6a u1 v y
    · exact u7e u1 u2 u3 y
  exact wt.cg (key T (Or.inr (Or.inl rfl))) (key A (Or.inr (Or.inr (Or.inl rfl)))) (key B (Or.inr (Or.inr (Or.inr (Or.inl rfl))))) (key D (Or.inr (Or.inr (Or.inr (Or.inr rfl)))))
theorem itE.fa (h : itE M0 z q w T A B D N C n p O P K Ab0 Be0 Cm0 M') : FA (trS q p O P Ab0 Be0) (fun x => x = q + 11) M0 M' := by
  obtain ⟨_, _, _, _, _, _, _, _, _, _, _, _, -, -, -, -, -, -, h⟩ := h
  exact h.1
theorem rc50 (h : W a = 0) : Rc W [50] a [] (a + 1) := Rc.one (mst_n (by decide) (by decide) (ys := []) (t := 1) (by
  show ex50 (W a) = _
  unfold ex50
  rw [if_pos h]) (Or.inl (by decide)))
theorem rf50 (h : 0 ≤ W a ∧ W a ≤ 39) (h0 : W a ≠ 0) (h4 : W a ≠ 4) (h11 : W a ≠ 11) (h7 : ¬ (W a = 7 ∨ W a = 8)) (h3 : ¬ (W a = 3 ∨ W a = 6)) : Rf W [50] a a := Rf.of (mst_no (by decide) (by decide) (by
  show ex50 (W a) = _
  unfold ex50
  rw [if_neg h0, if_neg h3, if_neg h4, if_neg h7, if_neg h11]))
/-- the items so far: i of them, the next begins at a -/
def tlJ (T A B D n O P : Nat) (W pl nq : Nat → Int) (sm : Nat → Nat → Prop) (Nn q p : Nat) (R : st9) (Rg : gm9) (i a : Nat) (M : mM) : Prop := WTq M T A B D n W pl nq sm ∧ Rc W [50] 0 [50] a ∧ i ≤ a ∧ ∃ (s : st9) (g : gm9), itZ q p s M ∧ (s.2.2.1 = 0 → R = its9 W pl nq sm Nn 60 (Nn - i) a s) ∧ (s.2.2.1 ≠ 0 → R.2.2 = s.2.2) ∧ (s.2.2.1 = 0 → CGm M p O P W pl nq sm Nn n s g) ∧ (s.2.2.1 = 0 → Rg = igs9 W pl nq sm Nn 60 (Nn - i) a s g)
theorem igs_next (f0 : s.2.2.1 = 0) (h1 : s.2.2.1 = 0 → Rg = igs9 W pl nq sm Nn 60 (Nn - i) a s g) (wa : W a ≠ 0) (nx : nxq W 34 Nn a = e) (hi : i < Nn) (hz : (sN W pl nq sm Nn a s).2.2.1 = 0) : Rg = igs9 W pl nq sm Nn 60 (Nn - (i + 1)) (e + 1) (sN W pl nq sm Nn a s) (igm9 W pl nq sm Nn s.1 a g) := by
  have r := h1 f0
  obtain ⟨f, hf⟩ : ∃ f, Nn - i = f + 1 := ⟨Nn - i - 1, by omega⟩
  have hf2 : Nn - (i + 1) = f := by omega
  have es : sN W pl nq sm Nn a s = ite9 W pl nq sm Nn 60 a s := if_neg (fun u => u f0)
  rw [hf, igs9, if_neg (fun u => u f0), if_neg wa, nx, ← es, if_neg (fun u => u hz)] at r
  rw [hf2]
  exact r
theorem igs_over (h1 : s.2.2.1 = 0 → Rg = igs9 W pl nq sm Nn 60 (Nn - i) a s g) (f0 : s.2.2.1 = 0) (wa : W a = 0) (hi : i < Nn) : Rg = g := by
  have r := h1 f0
  obtain ⟨f, hf⟩ : ∃ f, Nn - i = f + 1 := ⟨Nn - i - 1, by omega⟩
  rw [hf, igs9, if_neg (fun u => u f0), if_pos wa] at r
  exact r
theorem its_next (h1 : s.2.2.1 = 0 → R = its9 W pl nq sm Nn 60 (Nn - i) a s) (h2 : s.2.2.1 ≠ 0 → R.2.2 = s.2.2) (wa : W a ≠ 0) (nx : nxq W 34 Nn a = e) (hi : i < Nn) : ((sN W pl nq sm Nn a s).2.2.1 = 0 → R = its9 W pl nq sm Nn 60 (Nn - (i + 1)) (e + 1) (sN W pl nq sm Nn a s)) ∧ ((sN W pl nq sm Nn a s).2.2.1 ≠ 0 → R.2.2 = (sN W pl nq sm Nn a s).2.2) := by
  by_cases f0 : s.2.2.1 = 0
  · have r := h1 f0
    obtain ⟨f, hf⟩ : ∃ f, Nn - i = f + 1 := ⟨Nn - i - 1, by omega⟩
    have hf2 : Nn - (i + 1) = f := by omega
    have es : sN W pl nq sm Nn a s = ite9 W pl nq sm Nn 60 a s := if_neg (fun u => u f0)
    rw [hf, its9, if_neg (fun u => u f0), if_neg wa, nx, ← es] at r
    rw [hf2]
    refine ⟨fun _ => r, fun u => ?_⟩
    have r2 : its9 W pl nq sm Nn 60 f (e + 1) (sN W pl nq sm Nn a s) = sN W pl nq sm Nn a s := by
      cases f with
      | zero => rfl
      | succ f => rw [its9, if_pos u]
    rw [r, r2]
  · rw [sN_n f0]
    exact ⟨fun u => absurd u f0, fun _ => h2 f0⟩
theorem its_over (h1 : s.2.2.1 = 0 → R = its9 W pl nq sm Nn 60 (Nn - i) a s) (f0 : s.2.2.1 = 0) (wa : W a = 0) (hi : i < Nn) : R = if s.2.1.2.2.2 = 0 then (s.1, s.2.1, (10, pl a)) else s := by
  have r := h1 f0
  obtain ⟨f, hf⟩ : ∃ f, Nn - i = f + 1 := ⟨Nn - i - 1, by omega⟩
  rw [hf, its9, if_neg (fun u => u f0), if_pos wa] at r
  exact r
/-- what translate comes to, exactly -/
def tlV (W pl nq : Nat → Int) (sm : Nat → Nat → Prop) (Nn n q p : Nat) (R : st9) (Rg : gm9) (x : Int) (M' : mM) : Prop := (x = 1 ∧ ∃ q9 : Nat, Rf W [50] 0 q9 ∧ q9 ≤ n ∧ mI M' (q + 1) 4 = pl q9) ∨ ((∃ a, Rc W [50] 0 [] (a + 1)) ∧ FT M' (q + 1) R.2.2 ∧ (R.2.2.1 = 0 → CSm M' q p R ∧ CGm M' p (mR M' p 0) (mR M' p 1) W pl nq sm Nn n R Rg))
/-- an item does not stand -/
theorem x_tl_not (h : nstQ z q w T A B D N C n p O P K Ab Be Cm V F ns sf ef c cnt L M) (hf : trF M0 q p O P Ab0 Be0 Cm0 M Ab Be Cm) (wt : WTq M T A B D n W pl nq sm) {q9 : Nat} (e9 : mI M (q + 1) 2 = ((q9 : Nat) : Int)) (rf : Rf W [50] 0 q9) : mK M q = 3 ∧ mK M (mR M q 0) = 4 ∧ ∀ M93, M93 = mUI M (mR M q 0) 3 1 → mK M93 (mR M93 q 0) = 4 ∧ Ci G y_RR_here d [vr (mR M93 q 0)] M93 (fun x97 M96 => i32 x97 ∧ mOk M96 ∧ (mK M96 (mR M93 q 0) = 4 ∧ ∀ M100, M100 = mUI M96 (mR M93 q 0) 4 x97 → (tlQ M0 z q w T A B D N C n p O P K Ab0 Be0 Cm0 1 M100 ∧ tlV W pl nq sm Nn n q p R Rg 1 M100))) := by
  obtain ⟨h1, a, a1, a2⟩ := h
  obtain ⟨t0, t1, t2, t3, t4, t5⟩ := h1.1.2.1
  have ap := h1.1.apart
  have qp := h1.1.2.2.2.2.2.1.2.1
  have ne1 : O ≠ q + 1 ∧ P ≠ q + 1 ∧ p ≠ q + 1 ∧ ∀ i, 3 ≤ i → i ≤ 15 → p + i ≠ q + 1 := by
    exact ⟨u7c ap.2.1 (by decide), u7c ap.2.2.1 (by decide), fun e => u7d (i := 0) qp (x := q + 1) (by omega) (by omega) (by decide) e.symm, fun i _ i15 e => u7d qp (x := q + 1) (by omega) (by omega) i15 e.symm⟩
  clear ap qp
  rw [t1]
  have gen : ∀ {Mx My : mM} {j : Nat} {x : Int}, TX Mx z q w T A B D N C n p O P K Ab Be Cm V F ns sf ef c cnt L → i32 x → My = mUI Mx (q + 1) j x → (j = 3 ∧ x ≠ 0) ∨ j = 4 → TX My z q w T A B D N C n p O P K Ab Be Cm V F ns sf ef c cnt L ∧ FI (txS q p O P) Mx My ∧ (∀ i, mI My (q + 1) i = if i = j then x else mI Mx (q + 1) i) := fun {Mx My j x} hx ix e hj => by
    have f : FI (fun y => y = q + 1) Mx My := by rw [e]; exact FI.ui rfl
    have nb : ∀ y, y ≠ q + 1 → mI My y = mI Mx y := fun y hy => f.2.2.2.2.2.2 y hy
    have ir : ∀ i, mI My (q + 1) i = if i = j then x else mI Mx (q + 1) i := fun i => by
      rw [mI_ui _ i e]
      by_cases y : i = j
      · rw [if_pos ⟨rfl, y⟩, if_pos y]
      · rw [if_neg (fun t => y t.2), if_neg y]
    have fx : FI (txS q p O P) Mx My := f.mono (fun y hy => Or.inl (by have hy' : y = q + 1 := hy; omega))
    have o : mOk My := by rw [e]; exact mOk_UI hx.1.1.1 ix
    refine ⟨hx.tx o ⟨fx, fun i _ i3 i4 _ _ _ _ _ => by rw [ir, if_neg (by omega)], fun y => ?_, fun i _ _ => nb _ (by omega), fun i _ => by rw [nb p ne1.2.2.1], fun i h3 h15 => nb _ (ne1.2.2.2 i h3 h15), fun i _ => ⟨by rw [nb O ne1.1], by rw [nb P ne1.2.1]⟩⟩ (fun y => by rw [nb _ (by omega)]; exact hx.2.1.2.2.2 y), fx, ir⟩
    rw [ir]
    rcases hj with ⟨j3, x0⟩ | j4
    · rw [if_pos j3.symm]; exact x0
    · rw [if_neg (by omega)]; exact y
  refine ⟨t0, h1.1.1.2.1.1, fun M93 e93 => ?_⟩
  obtain ⟨h93, f93, i93⟩ := gen h1 ⟨by decide, by decide⟩ e93 (Or.inl ⟨rfl, by decide⟩)
  rw [h93.1.2.1.2.1]
  refine ⟨h93.1.1.2.1.1, (s_RR_here h93.1.1 (a := a) (by rw [i93, if_neg (by decide)]; exact a1) a2).mono (fun x97 M96 k => ?_)⟩
  obtain ⟨e96, ex97, x0, x1⟩ := k
  have a9 : a = q9 := by
    rw [a1] at e9
    omega
  have eB : x97 = pl q9 := by rw [ex97, ((wt.fi h1.1 f93).1 a a2).2.2, a9]
  subst e96
  refine ⟨i32s (by omega) (by omega), h93.1.1.1, h93.1.1.2.1.1, fun M100 e100 => ?_⟩
  obtain ⟨h100, f100, i100⟩ := gen h93 (i32s (by omega) (by omega)) e100 (Or.inr rfl)
  exact ⟨⟨Ab, Be, Cm, V, F, ns, sf, ef, c, cnt, L, h100, (hf.trans (trF.fi f93)).trans (trF.fi f100), by rw [i100, if_neg (by decide), i93, if_pos rfl], fun u => absurd u (by first | decide | simp)⟩, Or.inl ⟨rfl, q9, rf, by omega, by rw [i100, if_pos rfl]; exact eB⟩⟩
/-- the loop over the items -/
theorem x_tl41 (hF : FMx G) (hNn : n + 1 ≤ Nn) : ∀ (t i : Nat) (M : mM) (Ab Be Cm V F : Nat) (ns : Nat → Int) (sf ef : Nat → Nat) (c cnt L a : Nat), n + 1 ≤ i + t → i ≤ n + 1 → TX M z q w T A B D N C n p O P K Ab Be Cm V F ns sf ef c cnt L → mI M p 2 = ((L : Nat) : Int) → mI M (q + 1) 2 = ((a : Nat) : Int) → a ≤ n → L ≤ a → mI M (q + 1) 5 = 0 → trF M0 q p O P Ab0 Be0 Cm0 M Ab Be Cm → tlJ T A B D n O P W pl nq sm Nn q p R Rg i a M → h_TR_translate_41 G (d + 7) q w i M (fun x M' => tlQ M0 z q w T A B D N C n p O P K Ab0 Be0 Cm0 x M' ∧ tlV W pl nq sm Nn n q p R Rg x M') := by
  intro t
  induction t with
  | zero =>
    intro i M Ab Be Cm V F ns sf ef c cnt L a ht hi h hp ha han hLa hd hf J
    exact absurd J.2.2.1 (by omega)
  | succ t ih =>
    intro i M Ab Be Cm V F ns sf ef c cnt L a ht hi h hp ha han hLa hd hf J
    obtain ⟨wt, hR, hia, s, g, zs, js1, js2, cg, jg⟩ := J
    have hN : n ≤ 16384 := by have := h.1.1.2.2.2.1.2.2.1; have := h.1.1.2.2.2.1.1.2.2.2.2.2.2.1; omega
    obtain ⟨t0, t1, t2, t3, t4, t5⟩ := h.1.2.1
    obtain ⟨⟨w1, ⟨p0, p3, -⟩, -, ⟨kA, -⟩, ⟨cA, -⟩, w6, w7, w8, -⟩, w2, hnN, hw, hA, hB⟩ := id h.1.1.2.2.2.1
    refine k_TR_translate_41 h.1.1.1 (i32s (by omega) (by omega)) ?_
    rw [w2, t1, t3, w6, p3, cA, ha, Int.toNat_natCast]
    have fin : i < n + 1 → ∀ {M1 : mM}, itE M0 z q w T A B D N C n p O P K Ab0 Be0 Cm0 M1 → (∃ a', mI M1 (q + 1) 2 = ((a' : Nat) : Int) ∧ tlJ T A B D n O P W pl nq sm Nn q p R Rg (i + 1) a' M1) → h_TR_translate_218 G (d + 7) q w i M1 (fun x M' => tlQ M0 z q w T A B D N C n p O P K Ab0 Be0 Cm0 x M' ∧ tlV W pl nq sm Nn n q p R Rg x M') := fun hi1 {M1} hE hJ => by
      obtain ⟨Ab1, Be1, Cm1, V1, F1, ns1, sf1, ef1, c1, cnt1, L1, a1, e1, e2, e3, e4, e5, e6, e7⟩ := hE
      obtain ⟨a', ea', hJ⟩ := hJ
      have eaa : a' = a1 := by
        rw [e3] at ea'
        omega
      subst eaa
      refine k_TR_translate_218 e1.1.1.1 (i32s (by omega) (by omega)) ?_
      rw [show ((i : Int) + 1) = ((i + 1 : Nat) : Int) by first | rfl | omega]
      exact ih (i + 1) M1 Ab1 Be1 Cm1 V1 F1 ns1 sf1 ef1 c1 cnt1 L1 a' (by omega) (by omega) e1 e2 e3 e4 e5 e6 e7 hJ
    have nst : ∀ {l4 : Int} {M1 : mM} {cnt1 L1 : Nat}, i32 l4 → nstQ z q w T A B D N C n p O P K Ab Be Cm V F ns sf ef c cnt1 L1 M1 → FI (txS q p O P) M M1 → (∃ q9 : Nat, mI M1 (q + 1) 2 = q9 ∧ Rf W [50] 0 q9) → h_TR_translate_155 G (d + 7) q w i l4 0 M1 (fun x M' => tlQ M0 z q w T A B D N C n p O P K Ab0 Be0 Cm0 x M' ∧ tlV W pl nq sm Nn n q p R Rg x M') := fun {l4 M1 cnt1 L1} il hn fi ⟨q9, e9, rf9'⟩ => k_TR_translate_155 hn.1.1.1.1 (i32s (by omega) (by omega)) il (i32s (by omega) (by omega)) ⟨fun _ => x_tl_not hn (hf.trans (trF.fi fi)) (wt.fi h.1 fi) e9 rf9', fun y => absurd rfl y⟩
    have itr' : ∀ {M1 M2 : mM}, FI (txS q p O P) M M1 → itE M1 z q w T A B D N C n p O P K Ab Be Cm M2 → itE M0 z q w T A B D N C n p O P K Ab0 Be0 Cm0 M2 := fun {M1 M2} fi hE => by
      obtain ⟨Ab1, Be1, Cm1, V1, F1, ns1, sf1, ef1, c1, cnt1, L1, a1, e1, e2, e3, e4, e5, e6, e7⟩ := hE
      exact ⟨Ab1, Be1, Cm1, V1, F1, ns1, sf1, ef1, c1, cnt1, L1, a1, e1, e2, e3, e4, e5, e6, (hf.trans (trF.fi fi)).trans e7⟩
    have wE : mI M A a = 0 → a = n ∧ W a = 0 := fun u => by
      refine ⟨?_, ?_⟩
      · by_cases c1 : a = n
        · exact c1
        · have := (hw a (by omega)).1.1
          omega
      · obtain ⟨v1, v2, -⟩ := wt.1 a han
        exact (csq_w v1).2.1.mp (by rw [← v2]; exact u)
    have nxt : ∀ {e : Nat} {M2 : mM}, W a ≠ 0 → nxq W 34 Nn a = e → a ≤ e → Rc W [50] 0 [50] (e + 1) → WTq M2 T A B D n W pl nq sm → itZ q p (sN W pl nq sm Nn a s) M2 → ((sN W pl nq sm Nn a s).2.2.1 = 0 → CGm M2 p O P W pl nq sm Nn n (sN W pl nq sm Nn a s) (igm9 W pl nq sm Nn s.1 a g)) → tlJ T A B D n O P W pl nq sm Nn q p R Rg (i + 1) (e + 1) M2 := fun {e M2} wa nx ae rc wt2 z2 cg2 => by
      obtain ⟨g1, g2⟩ := its_next (pl := pl) (nq := nq) (sm := sm) js1 js2 wa nx (show i < Nn by omega)
      refine ⟨wt2, rc, by omega, _, igm9 W pl nq sm Nn s.1 a g, z2, g1, g2, cg2, fun hz => ?_⟩
      have f0 : s.2.2.1 = 0 := Classical.byContradiction (fun u => u (by rw [sN_n u] at hz; exact hz))
      exact igs_next f0 jg wa nx (show i < Nn by omega) hz
    refine ⟨w1, fun _ => ⟨t0, h.1.1.2.1.1, kA, by omega⟩, fun yE => ⟨t0, h.1.1.2.2.2.2.1.1, fun y => ⟨h.1.1.2.1.1, (x_tx_note (x := 10) (i32s (by omega) (by omega)) (by omega) (i32s (by omega) (by omega)) h).mono (fun M32 k => ?_)⟩, fun y => ?_⟩, fun y => ?_⟩
    · obtain ⟨o32, h32, x32, u3, u4, u5, u6⟩ := k
      obtain ⟨an, wa⟩ := wE (yE.resolve_left (by omega))
      have F32 := u6 _ zs.1
      rw [show ((N : Nat) : Int) = pl a by rw [← (wt.1 a han).2.2, an]; exact hB.symm] at F32
      have Rf9 : FT M32 (q + 1) R.2.2 ∧ R.2.2.1 ≠ 0 := by
        by_cases f0 : s.2.2.1 = 0
        · have ct := (zs.2 f0).2.2.2.2.1.mp y
          have r := its_over js1 f0 wa (show i < Nn by omega)
          rw [if_pos ct] at r
          rw [fst9_zr f0] at F32
          rw [r]
          exact ⟨F32, by simp⟩
        · rw [fst9_n f0] at F32
          rw [js2 f0]
          exact ⟨F32, f0⟩
      refine ⟨o32, k_TR_translate_248 o32 ⟨h32.1.2.1.1, by rw [h32.1.2.1.2.1]; exact h32.1.1.2.1.1, ?_⟩⟩
      rw [h32.1.2.1.2.1]
      exact ⟨⟨Ab, Be, Cm, V, F, ns, sf, ef, c, cnt, L, h32, hf.trans (trF.fi x32.1), rfl, fun u => absurd u u3⟩, Or.inr ⟨⟨a, hR.trans (rc50 wa)⟩, Rf9.1, fun u => absurd u Rf9.2⟩⟩
    · obtain ⟨an, wa⟩ := wE (yE.resolve_left (by omega))
      refine k_TR_translate_248 h.1.1.1 ⟨t0, by rw [t1]; exact h.1.1.2.1.1, ?_⟩
      rw [t1]
      refine ⟨⟨Ab, Be, Cm, V, F, ns, sf, ef, c, cnt, L, h, hf, rfl, fun _ => ⟨y, hp, by omega⟩⟩, Or.inr ⟨⟨a, hR.trans (rc50 wa)⟩, ?_⟩⟩
      by_cases f0 : s.2.2.1 = 0
      · have r := its_over js1 f0 wa (show i < Nn by omega)
        rw [if_neg (fun u => y ((zs.2 f0).2.2.2.2.1.mpr u))] at r
        rw [r, igs_over jg f0 wa (show i < Nn by omega)]
        have ro := h.1.1.2.2.2.2.1.2.1
        rw [ro.1, ro.2]
        exact ⟨zs.1, fun u => ⟨zs.2 u, cg u⟩⟩
      · rw [js2 f0]
        exact ⟨zs.1, fun u => absurd u f0⟩
    · have i1n : i < n + 1 := by
        by_cases u : ((n : Int) + 1 ≤ i)
        · exact absurd (Or.inl u) y
        · omega
      have y0 : mI M A a ≠ 0 := fun u => y (Or.inr u)
      have wA := wt.1 a han
      have wa : W a ≠ 0 := fun u => y0 (by rw [wA.2.1, u]; rfl)
      have an : a < n := by
        have : a ≠ n := fun u => y0 (by rw [u]; exact hA)
        omega
      have il := (h.1.1.1 A a).1
      have fin' := fun {M1 : mM} => fin i1n (M1 := M1)
      clear fin y
      have eS : ∀ {y : Int}, 1 ≤ y → y ≤ 38 → mI M A a = y + 1 → W a = y := fun h1 h2 u => (wt.is han h1 h2).mp u
      refine ⟨t0, h.1.1.2.1.1, kA, by omega, fun y5 => ?_, fun y5 => ⟨fun y12 => ?_, fun y12 => ⟨fun y8 => ?_, fun y8 => ⟨fun y4 => ?_, fun y4 => ?_⟩⟩⟩⟩
      · have w4 : W a = 4 := eS (by decide) (by decide) y5
        refine (x_TR_readVar (nms := s.1) h ha an hp hLa hd wt zs.1 w4 hR).mono (fun x M1 k => ?_)
        obtain ⟨⟨f1, k1⟩, va⟩ := k
        have wt1 : WTq M1 T A B D n W pl nq sm := wt.fi h.1 f1
        rcases k1 with ⟨e, u⟩ | ⟨e, h1, sl, a', nw, u1, u2, u3⟩
        · rw [e] at va ⊢
          exact ⟨⟨by decide, by decide⟩, u.1.1.1.1, nst il u f1 (by obtain ⟨b, eb, v⟩ := va; exact ⟨b, eb, (v.resolve_right (fun t => absurd t.1 (by first | decide | simp))).2⟩)⟩
        · rw [e] at va ⊢
          obtain ⟨e9, ee9, rc9, ae9, nx9, cv9'⟩ := x_st_var (G := G) (d := d + 1) hF h h1 u1 u2 u3 zs wt1 w4 (show n ≤ Nn by omega) va hp cg
          have ea9 : a' = e9 + 1 := by
            have t := u1.2.2.2.1
            rw [ee9] at t
            omega
          refine ⟨⟨by decide, by decide⟩, h1.1.1.1, k_TR_translate_155 h1.1.1.1 (i32s (by omega) (by omega)) il (i32s (by omega) (by omega)) ⟨fun t => absurd t (by first | decide | simp), fun _ => ⟨fun _ => ⟨h1.1.2.1.1, cv9'.mono (fun M2 k => ?_)⟩, fun t => absurd y5 t⟩⟩⟩
          have hE := itr' f1 k.1
          exact ⟨by obtain ⟨_, _, _, _, _, _, _, _, _, _, _, _, e1, -⟩ := hE; exact e1.1.1.1, fin' hE ⟨e9 + 1, by rw [← ea9]; exact k.2.2.1, nxt wa nx9 ae9 rc9 (h1.1.wtr k.1.fa wt1) k.2.1 k.2.2.2⟩⟩
      · have w11 : W a = 11 := eS (by decide) (by decide) y12
        refine (x_TR_readTarget (nms := s.1) h ha an hp hLa hd wt zs.1 w11 hR).mono (fun x M1 k => ?_)
        obtain ⟨⟨f1, k1⟩, tv⟩ := k
        have wt1 : WTq M1 T A B D n W pl nq sm := wt.fi h.1 f1
        rcases k1 with ⟨e, L1, u⟩ | ⟨e, L1, a', h1, u1, u2, u3, u4, u5⟩
        · rw [e] at tv ⊢
          exact ⟨⟨by decide, by decide⟩, u.1.1.1.1, nst il u f1 (by obtain ⟨b, eb, v⟩ := tv; exact ⟨b, eb, (v.resolve_right (fun t => absurd t.1 (by first | decide | simp))).2⟩)⟩
        · rw [e] at tv ⊢
          obtain ⟨e9, ee9, rc9, ae9, nx9, z9, c9⟩ := x_st_target (nq := nq) h zs w11 (show n ≤ Nn by omega) u2 u3 tv hp cg
          exact ⟨⟨by decide, by decide⟩, h1.1.1.1, k_TR_translate_155 h1.1.1.1 (i32s (by omega) (by omega)) il (i32s (by omega) (by omega)) ⟨fun t => absurd t (by first | decide | simp), fun _ => ⟨fun t => absurd t y5, fun _ => ⟨fun t => absurd t (by omega), fun _ => fin' ⟨Ab, Be, Cm, V, F, ns, sf, ef, c, cnt, L1, a', h1, u1, u2, u3, u4, u5, hf.trans (trF.fi f1)⟩ ⟨e9 + 1, ee9, nxt wa nx9 ae9 rc9 wt1 z9 c9⟩⟩⟩⟩⟩
      · have w7 : W a = 7 ∨ W a = 8 := y8.imp (fun u => eS (by decide) (by decide) u) (fun u => eS (by decide) (by decide) u)
        refine (x_TR_readCommand (Nn := Nn) (nms := s.1) ⟨fun u => eS (y := 7) (by decide) (by decide) u, fun u => by rw [wA.2.1, u]; rfl⟩ il h ha an hp hLa hd (show n ≤ Nn by omega) wt zs.1 w7 hR).mono (fun x M1 k => ?_)
        obtain ⟨⟨f1, k1⟩, tv⟩ := k
        have wt1 : WTq M1 T A B D n W pl nq sm := wt.fi h.1 f1
        rcases k1 with ⟨e, L1, cnt1, u⟩ | ⟨e, L1, cnt1, a', h1, u1, u2, u3, u4, u5⟩
        · rw [e] at tv ⊢
          exact ⟨⟨by decide, by decide⟩, u.1.1.1.1, nst il u f1 (by obtain ⟨b, eb, v⟩ := tv; exact ⟨b, eb, (v.resolve_right (fun t => absurd t.1 (by first | decide | simp))).2⟩)⟩
        · rw [e] at tv ⊢
          obtain ⟨e9, ee9, rc9, ae9, nx9, z9, c9⟩ := x_st_cmd h zs w7 (show n ≤ Nn by omega) u2 u3 tv hp h1 cg
          exact ⟨⟨by decide, by decide⟩, h1.1.1.1, k_TR_translate_155 h1.1.1.1 (i32s (by omega) (by omega)) il (i32s (by omega) (by omega)) ⟨fun t => absurd t (by first | decide | simp), fun _ => ⟨fun t => absurd t y5, fun _ => ⟨fun t => absurd t (by omega), fun _ => fin' ⟨Ab, Be, Cm, V, F, ns, sf, ef, c, cnt1, L1, a', h1, u1, u2, u3, u4, u5, hf.trans (trF.fi f1)⟩ ⟨e9 + 1, ee9, nxt wa nx9 ae9 rc9 wt1 z9 c9⟩⟩⟩⟩⟩
      · have w36 : W a = 3 ∨ W a = 6 := y4.imp (fun u => eS (by decide) (by decide) u) (fun u => eS (by decide) (by decide) u)
        have hl1 : mI M A a = W a + 1 := by
          rcases y4 with u | u
          · rw [u, eS (y := 3) (by decide) (by decide) u]; rfl
          · rw [u, eS (y := 6) (by decide) (by decide) u]; rfl
        refine (x_TR_readNamed (nms := s.1) y4 h ha an hp hLa hd wt zs.1 w36 hR).mono (fun x M1 k => ?_)
        obtain ⟨⟨f1, k1⟩, nv⟩ := k
        have wt1 : WTq M1 T A B D n W pl nq sm := wt.fi h.1 f1
        rcases k1 with ⟨e, u⟩ | ⟨e, h1, u0, e', a', nw, H, u1, u2, u3, u4, u5, u6, u7, u8, u9, u10, u11⟩
        · rw [e] at nv ⊢
          exact ⟨⟨by decide, by decide⟩, u.1.1.1.1, fun _ => nst il u f1 (by obtain ⟨b, eb, v⟩ := nv; exact ⟨b, eb, (v.resolve_right (fun t => absurd t.1 (by first | decide | simp))).2⟩), fun t => absurd rfl t⟩
        · rw [e] at nv ⊢
          obtain ⟨b9, eb9, nv⟩ := nv
          obtain ⟨-, nw2, e9, E9', C9, L9, f9, v1, v2, v3, v4, v5, v6, v7, v8, v9, v10, v11, v12, v13⟩ := nv.resolve_left (fun t => absurd t.1 (by first | decide | simp))
          clear nv
          have ea9 : a' = e9 + 1 := by
            rw [u3, v1] at eb9
            omega
          obtain ⟨nx9, cv9'⟩ := x_st_named (G := G) (d := d + 1) hF y4 hl1 h h1 u0 u1 u2 u3 u4 u5 u6 ⟨u7, u8, u9⟩ u10 u11 zs wt1 nw2 v2 v3 (by omega) (show n ≤ Nn by omega) v5 v6 v7 v8 v9 v10 v11 v12 v13 hp cg
          have ae9 : a ≤ e9 := by
            have := v2.pr.1
            omega
          refine ⟨⟨by decide, by decide⟩, h1.1.1.1, fun t => absurd t (by first | decide | simp), fun _ => k_TR_translate_155 h1.1.1.1 (i32s (by omega) (by omega)) il (i32s (by omega) (by omega)) ⟨fun t => absurd t (by first | decide | simp), fun _ => ⟨fun t => absurd t y5, fun _ => ⟨fun _ => ⟨h1.1.2.1.1, cv9'.mono (fun M2 k => ?_)⟩, fun t => absurd y4 t⟩⟩⟩⟩
          have hE := itr' f1 k.1
          exact ⟨by obtain ⟨_, _, _, _, _, _, _, _, _, _, _, _, e1, -⟩ := hE; exact e1.1.1.1, fin' hE ⟨e9 + 1, by rw [← ea9]; exact k.2.2.1, nxt wa nx9 ae9 v4 (h1.1.wtr k.1.fa wt1) k.2.1 (fun z => by
            have ig : igm9 W pl nq sm Nn s.1 a g = g := if_pos w36
            rw [ig]
            exact k.2.2.2 z)⟩⟩
      · exact nst il ⟨h, a, ha, han⟩ FI.refl ⟨a, ha, hR.rf (rf50 wA.1 wa (fun u => y5 (by rw [wA.2.1, u]; rfl)) (fun u => y12 (by rw [wA.2.1, u]; rfl)) (fun u => y8 (u.imp (fun v => by rw [wA.2.1, v]; rfl) (fun v => by rw [wA.2.1, v]; rfl))) (fun u => y4 (u.imp (fun v => by rw [wA.2.1, v]; rfl) (fun v => by rw [wA.2.1, v]; rfl))))⟩
end TYA
end
section
section
/-! The class's reader of texts, exactly: translate, the whole. -/
section TYB
variable {G : mG} {d z q w T A B D N C n p O P K Ab Be Cm Nn : Nat} {M M' : mM} {W pl nq : Nat → Int} {sm : Nat → Nat → Prop}
/-- no item yet -/
def s9c : st9 := ([], (0, 0, 0, 0), (0, 0))
/-- no game yet -/
def g9c : gm9 := ([], none, [])
theorem npz {q p : Nat} (s : q + 22 < p ∨ p + 15 < q) : p ≠ q ∧ p ≠ q + 1 ∧ p ≠ q + 11 ∧ q ≠ p ∧ q + 11 ≠ p ∧ q + 1 ≠ p ∧ p + 12 ≠ q + 1 := by
  refine ⟨?_, ?_, ?_, ?_, ?_, ?_, ?_⟩ <;> omega
theorem qnz6 (q : Nat) : q ≠ q + 11 ∧ q + 1 ≠ q + 11 ∧ q ≠ q + 1 ∧ q + 11 ≠ q + 1 ∧ q + 11 ≠ q ∧ q + 1 ≠ q := by
  refine ⟨?_, ?_, ?_, ?_, ?_, ?_⟩ <;> omega
theorem tz_nk {p q x : Nat} (v1 : ¬ (q ≤ x ∧ x ≤ q + 22)) (v2 : ¬ (p ≤ x ∧ x ≤ p + 15)) (y : x = p ∨ x = p + 12 ∨ x = q + 1) : False := by omega
theorem x_TR_translate (hF : FMx G) (hNn : n + 1 ≤ Nn) (h : TZ M z q p O P K Ab Be Cm) (hw : TZw M q w T A B D p O P Ab Be) (hW : Wf M w T A B D N C n) (wt : WTq M T A B D n W pl nq sm) : Ci G y_TR_translate (d + 8) [vr q, vr w, vr p] M (fun x M' => tzQ M z q w T A B D N C n p O P K Ab Be Cm x M' ∧ tlV W pl nq sm Nn n q p (its9 W pl nq sm Nn 60 Nn 0 s9c) (igs9 W pl nq sm Nn 60 Nn 0 s9c g9c) x M') := by
  have hn := hW.2.2.1
  have hN := hW.1.2.2.2.2.2.2.1
  obtain ⟨h1, h2, ⟨q0, q1, q2, q5, q6⟩, h4, h5, h6, ⟨s1, s2⟩, s3, h9⟩ := id h
  have z0 := h5.2.2.2.2.2.2.1.1
  obtain ⟨-, -, -, ⟨o1, o2, o3, o4⟩, ⟨pz0, pz1, pz2⟩, -⟩ := id h6
  have wz := hw w (Or.inl rfl)
  have npq : p ≠ q ∧ p ≠ q + 1 ∧ p ≠ q + 11 ∧ q ≠ p ∧ q + 11 ≠ p ∧ q + 1 ≠ p ∧ p + 12 ≠ q + 1 := npz s2
  have bz : q < mZ M ∧ q + 1 < mZ M ∧ q + 11 < mZ M := by
    clear h h1 h2 h4 h5 h6 h9 hW hw hF
    omega
  have qn : q ≠ q + 11 ∧ q + 1 ≠ q + 11 ∧ q ≠ q + 1 ∧ q + 11 ≠ q + 1 ∧ q + 11 ≠ q ∧ q + 1 ≠ q := qnz6 q
  refine k_TR_translate h1 ⟨q0, fun M2 e2 => ?_⟩
  have f2 : FA (fun _ => False) (fun x => x = q) M M2 := FA.ur rfl e2
  have w2 : mI M2 w 2 = ((n + 1 : Nat) : Int) := by rw [e2, mI_UR, hW.2.1]; rfl
  have rq2 : ∀ i, mR M2 q i = if i = 2 then p else mR M q i := fun i => by
    rw [e2, mR_UR]
    by_cases y : i = 2
    · rw [if_pos ⟨rfl, y⟩, if_pos y]
    · rw [if_neg (fun t => y t.2), if_neg y]
  have p2 : PK M2 z p O P K := h6.fa f2 npq.1
  rw [rq2 2, if_pos rfl, w2]
  refine ⟨by rw [(f2.2 w wz.2.2.2.2.2.2).1]; exact hW.1.1, p2.1, (s_Pr_clear (q := n + 1) (show mOk M2 by rw [e2]; exact h1) p2 (by omega)).mono (fun M6 k => ?_)⟩
  obtain ⟨O', P', K', o6, p6, nK, -, f6, ip, i12, gr⟩ := k
  have Z2 : mZ M2 = mZ M := by rw [e2]; rfl
  have S2 : mS M2 = mS M := by rw [e2]; rfl
  have z26 := f6.1.1
  have f26 : FA (fun x => x = p ∨ x = p + 12) (fun x => x = q ∨ x = p) M M6 := (f2.mono (fun _ _ y => y.elim) (fun _ _ y => Or.inl y)).trans2 f6 (fun _ _ y => y) (fun _ _ y => Or.inr y)
  have rq6 : ∀ i, mR M6 q i = if i = 2 then p else mR M q i := fun i => by rw [(f6.2 q (by rw [Z2]; exact bz.1)).2.2.2.1 npq.2.2.2.1]; exact rq2 i
  have rm6 : mR M6 (q + 11) = mR M (q + 11) := (f26.2 (q + 11) bz.2.2).2.2.2.1 (fun y => y.elim qn.2.2.2.2.1 npq.2.2.2.2.1)
  have rr6 : mR M6 (q + 1) = mR M (q + 1) := (f26.2 (q + 1) bz.2.1).2.2.2.1 (fun y => y.elim qn.2.2.2.2.2 npq.2.2.2.2.2.1)
  rw [rq6 1, if_neg (by decide), q2, rq6 2, if_pos rfl]
  refine ⟨o6, by rw [(f26.2 q bz.1).1]; exact q0, by rw [(f26.2 (q + 11) bz.2.2).1]; exact h5.1, fun M11 e11 => ?_⟩
  have f11 : FA (fun _ => False) (fun x => x = q + 11) M6 M11 := FA.ur rfl e11
  have rq11 : ∀ i, mR M11 q i = if i = 2 then p else mR M q i := fun i => by rw [e11, mR_UR, if_neg (fun t => qn.1 t.1)]; exact rq6 i
  have rm11 : ∀ i, mR M11 (q + 11) i = if i = 0 then p else mR M (q + 11) i := fun i => by
    rw [e11, mR_UR]
    by_cases y : i = 0
    · rw [if_pos ⟨rfl, y⟩, if_pos y]
    · rw [if_neg (fun t => y t.2), if_neg y, rm6]
  have rr11 : mR M11 (q + 1) = mR M (q + 1) := by
    funext i
    rw [e11, mR_UR, if_neg (fun t => qn.2.1 t.1), rr6]
  have i11 : mI M11 = mI M6 := by rw [e11]; rfl
  have o11 : mOk M11 := by rw [e11]; exact o6
  have Z11 : mZ M11 = mZ M6 := by rw [e11]; rfl
  have S11 : mS M11 = mS M6 := by rw [e11]; rfl
  have k11 : ∀ x, mK M11 x = mK M6 x := fun x => by rw [e11]; rfl
  rw [rq11 0, if_neg (by decide), q1, rq11 2, if_pos rfl]
  refine ⟨by rw [k11, (f26.2 (q + 1) bz.2.1).1]; exact h2.1, k_RR_begin o11 ⟨by rw [k11, (f26.2 (q + 1) bz.2.1).1]; exact h2.1, fun B2 b2 B4 b4 B6 b6 B8 b8 B10 b10 B12 b12 B14 b14 => ?_⟩⟩
  have g4 : FA (fun x => x = q + 1) (fun x => x = q + 1) M11 B4 := (FA.ur (S := fun x => x = q + 1) (R := fun x => x = q + 1) rfl b2).trans (FA.ur rfl b4)
  have c6 : FI (fun x => x = q + 1) B4 B6 := by rw [b6]; exact FI.ui rfl
  have c8 : FI (fun x => x = q + 1) B6 B8 := by rw [b8]; exact FI.ui rfl
  have c10 : FI (fun x => x = q + 1) B8 B10 := by rw [b10]; exact FI.ui rfl
  have c12 : FI (fun x => x = q + 1) B10 B12 := by rw [b12]; exact FI.ui rfl
  have c14 : FI (fun x => x = q + 1) B12 B14 := by rw [b14]; exact FI.ui rfl
  have cc := (((c6.trans c8).trans c10).trans c12).trans c14
  have g14 : FA (fun x => x = q + 1) (fun x => x = q + 1) M11 B14 := g4.trans (FI.fa cc)
  have o14 : mOk B14 := by rw [b14]; exact mOk_UI (by rw [b12]; exact mOk_UI (by rw [b10]; exact mOk_UI (by rw [b8]; exact mOk_UI (by rw [b6]; exact mOk_UI (by rw [b4]; exact mOk_UR (by rw [b2]; exact mOk_UR o11)) ⟨by decide, by decide⟩) ⟨by decide, by decide⟩) ⟨by decide, by decide⟩) ⟨by decide, by decide⟩) ⟨by decide, by decide⟩
  have r4 : ∀ x i, mR B4 x i = if x = q + 1 ∧ i = 1 then p else if x = q + 1 ∧ i = 0 then w else mR M11 x i := fun x i => by rw [b4, mR_UR, b2, mR_UR]
  have ZB : mZ B14 = mZ M6 := by rw [cc.2.2.2.2.1, b4, mZ_UR, b2, mZ_UR, Z11]
  have SB : mS B14 = mS M6 := by rw [cc.2.2.2.2.2.1, b4, mS_UR, b2, mS_UR, S11]
  have F14 : FA (fun x => x = p ∨ x = p + 12 ∨ x = q + 1) (tzR q p) M B14 := by
    have a1 : FA (fun x => x = p ∨ x = p + 12 ∨ x = q + 1) (tzR q p) M M6 := f26.mono (fun x _ y => y.elim (fun u => Or.inl u) (fun u => Or.inr (Or.inl u))) (fun x _ y => y.elim (fun u => Or.inl u) (fun u => Or.inr (Or.inr (Or.inr u))))
    exact (a1.trans2 f11 (fun _ _ y => y.elim) (fun x _ y => Or.inr (Or.inr (Or.inl y)))).trans2 g14 (fun x _ y => Or.inr (Or.inr y)) (fun x _ y => Or.inr (Or.inl y))
  have pk14 : PK B14 z p O' P' K' := (p6.fa f11 npq.2.2.1).fa g14 npq.2.1
  have ib : ∀ x, x ≠ q + 1 → mI B14 x = mI M6 x := fun x hx => by rw [cc.2.2.2.2.2.2 x hx, b4, mI_UR, b2, mI_UR, i11]
  have iq : mI B14 (q + 1) 2 = 0 ∧ mI B14 (q + 1) 3 = 0 ∧ mI B14 (q + 1) 5 = 0 ∧ mI B14 (q + 1) 19 = 0 := by
    refine ⟨?_, ?_, ?_, ?_⟩
    · rw [mI_ui _ _ b14, if_neg (fun t => absurd t.2 (by first | decide | simp)), mI_ui _ _ b12, if_neg (fun t => absurd t.2 (by first | decide | simp)), mI_ui _ _ b10, if_neg (fun t => absurd t.2 (by first | decide | simp)), mI_ui _ _ b8, if_neg (fun t => absurd t.2 (by first | decide | simp)), mI_ui _ _ b6, if_pos ⟨rfl, rfl⟩]
    · rw [mI_ui _ _ b14, if_neg (fun t => absurd t.2 (by first | decide | simp)), mI_ui _ _ b12, if_neg (fun t => absurd t.2 (by first | decide | simp)), mI_ui _ _ b10, if_neg (fun t => absurd t.2 (by first | decide | simp)), mI_ui _ _ b8, if_pos ⟨rfl, rfl⟩]
    · rw [mI_ui _ _ b14, if_neg (fun t => absurd t.2 (by first | decide | simp)), mI_ui _ _ b12, if_pos ⟨rfl, rfl⟩]
    · rw [mI_ui _ _ b14, if_pos ⟨rfl, rfl⟩]
  have hOP : (O' = O ∧ P' = P) ∨ (mZ M ≤ O' ∧ mZ M ≤ P') := by
    rcases gr with ⟨u1, u2, -⟩ | ⟨u1, u2, -⟩
    · exact Or.inl ⟨u1, u2⟩
    · exact Or.inr ⟨by omega, by omega⟩
  have X := tz_start h hw hW o14 F14 pk14 nK hOP (fun i => by
      rw [cc.2.2.1, r4, rr11]
      by_cases y1 : i = 1
      · rw [if_pos ⟨rfl, y1⟩, if_pos y1]
      · rw [if_neg (fun t => y1 t.2), if_neg y1]
        by_cases y0 : i = 0
        · rw [if_pos ⟨rfl, y0⟩, if_pos y0]
        · rw [if_neg (fun t => y0 t.2), if_neg y0]) (fun i => by rw [cc.2.2.1, r4, if_neg (fun t => qn.2.2.1 t.1), if_neg (fun t => qn.2.2.1 t.1), rq11]) (fun i => by rw [cc.2.2.1, r4, if_neg (fun t => qn.2.2.2.1 t.1), if_neg (fun t => qn.2.2.2.1 t.1), rm11]) (by rw [ib p npq.2.1]; exact ip) (by rw [ib (p + 12) npq.2.2.2.2.2.2]; exact i12) iq
  have p14 : mI B14 p 2 = ((0 : Nat) : Int) := by rw [ib p npq.2.1]; exact ip.1
  have wt14 : WTq B14 T A B D n W pl nq sm := by
    have key : ∀ x, (x = w ∨ x = T ∨ x = A ∨ x = B ∨ x = D) → mI B14 x = mI M x := fun x hx => by
      obtain ⟨v1, v2, v3, v4, v5, v6, v7⟩ := hw x hx
      refine (F14.2 x v7).2.2.2.2 (fun y => ?_)
      exact tz_nk v1 v2 y
    exact wt.cg (key T (Or.inr (Or.inl rfl))) (key A (Or.inr (Or.inr (Or.inl rfl)))) (key B (Or.inr (Or.inr (Or.inr (Or.inl rfl))))) (key D (Or.inr (Or.inr (Or.inr (Or.inr rfl)))))
  have zs14 : itZ q p s9c B14 := by
    refine ⟨FT.zz iq.2.1, fun _ => ⟨⟨by rw [iq.2.2.2]; rfl, fun i e hi => absurd hi (by simp [s9c])⟩, ?_, ?_, ?_, ?_, rfl, rfl, rfl⟩⟩
    · rw [ib p npq.2.1]; exact ip.2.1
    · rw [ib p npq.2.1]; exact ip.2.2.1
    · rw [ib p npq.2.1]; exact ip.2.2.2.1
    · rw [ib p npq.2.1]; exact ⟨fun _ => rfl, fun _ => ip.2.2.2.2⟩
  have nil9 : ∀ {l1 l2 : List nm9} {e : nm9}, s9c.1 = l1 ++ e :: l2 → False := fun {l1 l2 e} h => by
    have h : ([] : List nm9) = l1 ++ e :: l2 := h
    exact absurd h.symm (by simp)
  have cg14 : CGm B14 p O' P' W pl nq sm Nn n s9c g9c := ⟨0, fun _ => 0, fun _ => 0, fun _ => 0, p14, fun l1 e l2 h => (nil9 h).elim, fun l1 e l2 h => (nil9 h).elim, fun x hx => absurd hx (Nat.not_lt_zero _), ⟨rfl, fun v x hx => absurd hx (by simp [g9c]), fun l1 e l2 h => (nil9 h).elim⟩, ⟨fun _ => rfl, fun tg ht => absurd ht (by simp [g9c])⟩, rfl, fun c cm hc => absurd hc (by simp [g9c])⟩
  have J14 : tlJ T A B D n O' P' W pl nq sm Nn q p (its9 W pl nq sm Nn 60 Nn 0 s9c) (igs9 W pl nq sm Nn 60 Nn 0 s9c g9c) 0 0 B14 := ⟨wt14, Rc.refl, Nat.le_refl _, s9c, g9c, zs14, fun _ => rfl, fun u => absurd rfl u, fun _ => cg14, fun _ => rfl⟩
  clear f2 f6 f26 f11 g4 c6 c8 c10 c12 c14 g14 r4 rq2 rq6 rm6 rr6 rq11 rm11 rr11 b2 b4 b6 b8 b10 b12 b14 e2 e11 i11 ib cc k11 w2 p2 p6 ip i12
  refine ⟨o14, ?_⟩
  have zM : mZ M6 = mZ M ∧ mS M6 = mS M ∧ K' = K ∨ (2 * K ≤ K' ∧ mZ M6 = mZ M + 2 ∧ mS M6 = mS M + 2 * K') := by
    rcases gr with ⟨-, -, u3, u4, u5⟩ | ⟨-, -, u3, u4, u5⟩
    · exact Or.inl ⟨by omega, by omega, u3⟩
    · exact Or.inr ⟨u3, by omega, by omega⟩
  have K128 := h6.2.2.2.2.2.1.1
  refine hmono_41 (x_tl41 (M0 := B14) (Ab0 := Ab) (Be0 := Be) (Cm0 := Cm) hF hNn (n + 1) 0 B14 Ab Be Cm 0 0 (fun _ => 0) (fun _ => 0) (fun _ => 0) 0 0 0 0 (by omega) (by omega) X p14 iq.1 (by omega) (by omega) iq.2.2.1 trF.refl J14) (fun x M' k => ?_)
  obtain ⟨⟨Ab1, Be1, Cm1, V, F, ns, sf, ef, c, cnt, L, h1', ⟨t1, t2, t3, t4⟩, e1, e2⟩, tv⟩ := k
  refine ⟨?_, tv⟩
  clear tv J14 zs14 wt14
  refine ⟨O', P', K', Ab1, Be1, Cm1, V, F, ns, sf, ef, c, cnt, L, h1', ?_, ⟨hOP, ?_, ?_⟩, ⟨?_, ?_⟩, e1, e2⟩
  · have a1 : FA (tzS q p O P Ab Be) (tzR q p) M B14 := F14.mono (fun x _ y => tz4 y) (fun _ _ y => y)
    exact a1.trans2 t1 (fun x hx y => tz3 hx hOP y) (fun x _ y => Or.inr (Or.inr (Or.inl y)))
  · exact t2.1.imp (fun u => u) (fun u => Nat.le_trans F14.1.1 u)
  · exact t2.2.imp (fun u => u) (fun u => Nat.le_trans F14.1.1 u)
  · clear h hw hW h1 h2 h4 h5 h6 h9 X F14 pk14 o14 h1' t1 t2 hOP o1 o2 s2 s3 wz gr npq qn
    omega
  · clear h hw hW h1 h2 h4 h5 h6 h9 X F14 pk14 o14 h1' t1 t2 hOP o1 o2 s2 s3 wz gr npq qn
    omega
end TYB
end
section
/-! The reference: the items of a text. -/
section ITM
variable {w : Nat → Int} {n : Nat}
theorem ac_le : ∀ {f : Nat} {l : List Int} {k : Nat}, Ac w n f l k → k ≤ n := by
  intro f
  induction f with
  | zero => intro l k h; exact Nat.le_of_eq h.2
  | succ f ih =>
    intro l k h
    cases l with
    | nil => exact h.elim
    | cons x r =>
      have h' : (if x = 75 then Ac w n f r k else if x < 50 then w k = x ∧ Ac w n f r (k + 1) else ∃ ys t, ex x (w k) = some (ys, t) ∧ Ac w n f (ys ++ r) (k + t)) := h
      by_cases c1 : x = 75
      · rw [if_pos c1] at h'; exact ih h'
      · rw [if_neg c1] at h'
        by_cases c2 : x < 50
        · rw [if_pos c2] at h'; have := ih h'.2; omega
        · rw [if_neg c2] at h'
          obtain ⟨ys, t, e, a⟩ := h'
          have := ih a
          omega
/-- sets, joined by & -/
def Se (w : Nat → Int) : Nat → Nat → Nat → Prop
  | 0, _, _ => False
  | f + 1, p, q => w p = 36 ∧ w (p + 1) = 1 ∧ w (p + 2) = 38 ∧ w (p + 3) = 23 ∧ ∃ c, Eo w 6 (p + 4) c ∧ w c = 37 ∧ ((q = c + 1 ∧ w (c + 1) ≠ 29) ∨ (w (c + 1) = 29 ∧ Se w f (c + 2) q))
def Ss (w : Nat → Int) (p s : Nat) : Prop := (w p = 10 ∧ s = p + 1) ∨ (w p ≠ 10 ∧ ∃ f, Se w f p s)
/-- branches, joined by + -/
def Br (w : Nat → Int) : Nat → Nat → Nat → Prop
  | 0, _, _ => False
  | f + 1, p, e => ∃ q s, Eo w 5 p q ∧ w q = 33 ∧ Ss w (q + 1) s ∧ ((s = e ∧ w s ≠ 24) ∨ (w s = 24 ∧ Br w f (s + 1) e))
def Vs (w : Nat → Int) (p i : Nat) : Prop := (w p = 5 ∧ i = p + 1) ∨ (w p ≠ 5 ∧ ∃ j, Eo w 6 p j ∧ w j = 16 ∧ Eo w 6 (j + 1) i)
/-- an item from k to its end at e -/
def It (w : Nat → Int) (k e : Nat) : Prop := w e = 34 ∧ k < e ∧ (((w k = 3 ∨ w k = 6) ∧ w (k + 1) = 1 ∧ w (k + 2) = 23 ∧ Eo w 6 (k + 3) e) ∨ (w k = 4 ∧ w (k + 1) = 1 ∧ w (k + 2) = 33 ∧ ∃ i, Vs w (k + 3) i ∧ ((w i ≠ 9 ∧ i = e) ∨ (w i = 9 ∧ Eo w 6 (i + 1) e))) ∨ ((w k = 7 ∨ w k = 8) ∧ ∃ j f, Eo w 6 (k + 1) j ∧ w j = 17 ∧ Br w f (j + 1) e) ∨ (w k = 11 ∧ Eo w 6 (k + 1) e))
theorem ac_set : ∀ {f k : Nat} {r : List Int}, Ac w n f (59 :: 60 :: r) k → ∃ s g f', g < f ∧ k < s ∧ Se w f' k s ∧ Ac w n g r s := by
  intro f
  induction f using Nat.strongRecOn with
  | ind f ih =>
    intro k r h
    obtain ⟨g, ys, t, hg, e, a⟩ := ac_n (by omega) (by omega) h
    rw [ex_59] at e
    unfold ex59 at e
    by_cases c1 : w k = 36
    · rw [if_pos c1] at e
      cases e
      have a' : Ac w n g (1 :: 38 :: 23 :: 61 :: 37 :: 75 :: 60 :: r) (k + 1) := a
      obtain ⟨g1, l1, d1, a1⟩ := ac_t (by omega) a'
      obtain ⟨g2, l2, d2, a2⟩ := ac_t (by omega) a1
      obtain ⟨g3, l3, d3, a3⟩ := ac_t (by omega) a2
      obtain ⟨c, g4, l4, m4, e4, a4⟩ := ac_rule a3
      obtain ⟨g5, l5, d5, a5⟩ := ac_t (by omega) a4
      obtain ⟨g6, l6, a6⟩ := ac_l a5
      obtain ⟨g7, ys7, t7, l7, e7, a7⟩ := ac_n (by omega) (by omega) a6
      rw [ex_60] at e7
      unfold ex60 at e7
      by_cases c2 : w (c + 1) = 29
      · rw [if_pos c2] at e7
        cases e7
        have a7' : Ac w n g7 (59 :: 60 :: r) (c + 2) := a7
        obtain ⟨s, g8, f8, l8, m8, s8, a8⟩ := ih g7 (by omega) a7'
        exact ⟨s, g8, f8 + 1, by omega, by omega, ⟨c1, d1, d2, d3, c, e4, d5, Or.inr ⟨c2, s8⟩⟩, a8⟩
      · rw [if_neg c2] at e7
        cases e7
        exact ⟨c + 1, g7, 1, by omega, by omega, ⟨c1, d1, d2, d3, c, e4, d5, Or.inl ⟨rfl, c2⟩⟩, a7⟩
    · rw [if_neg c1] at e
      cases e
theorem ac_sets {f k : Nat} {r : List Int} (h : Ac w n f (58 :: r) k) : ∃ s g, g < f ∧ k < s ∧ Ss w k s ∧ Ac w n g r s := by
  obtain ⟨g, ys, t, hg, e, a⟩ := ac_n (by omega) (by omega) h
  rw [ex_58] at e
  unfold ex58 at e
  by_cases c1 : w k = 10
  · rw [if_pos c1] at e
    cases e
    exact ⟨k + 1, g, hg, by omega, Or.inl ⟨c1, rfl⟩, a⟩
  · rw [if_neg c1] at e
    cases e
    have a' : Ac w n g (59 :: 60 :: r) k := a
    obtain ⟨s, g1, f1, l1, m1, s1, a1⟩ := ac_set a'
    exact ⟨s, g1, by omega, m1, Or.inr ⟨c1, f1, s1⟩, a1⟩
theorem ac_branches : ∀ {f k : Nat} {r : List Int}, Ac w n f (56 :: 57 :: r) k → ∃ e g f', g < f ∧ k < e ∧ Br w f' k e ∧ Ac w n g r e := by
  intro f
  induction f using Nat.strongRecOn with
  | ind f ih =>
    intro k r h
    obtain ⟨g, ys, t, hg, e, a⟩ := ac_n (by omega) (by omega) h
    rw [ex_56] at e
    unfold ex56 at e
    cases e
    have a' : Ac w n g (63 :: 33 :: 58 :: 57 :: r) k := a
    obtain ⟨q, g1, l1, m1, e1, a1⟩ := ac_or a'
    obtain ⟨g2, l2, d2, a2⟩ := ac_t (by omega) a1
    obtain ⟨s, g3, l3, m3, s3, a3⟩ := ac_sets a2
    obtain ⟨g4, ys4, t4, l4, e4, a4⟩ := ac_n (by omega) (by omega) a3
    rw [ex_57] at e4
    unfold ex57 at e4
    by_cases c1 : w s = 24
    · rw [if_pos c1] at e4
      cases e4
      have a4' : Ac w n g4 (56 :: 57 :: r) (s + 1) := a4
      obtain ⟨e5, g5, f5, l5, m5, b5, a5⟩ := ih g4 (by omega) a4'
      exact ⟨e5, g5, f5 + 1, by omega, by omega, ⟨q, s, e1, d2, s3, Or.inr ⟨c1, b5⟩⟩, a5⟩
    · rw [if_neg c1] at e4
      cases e4
      exact ⟨s, g4, 1, by omega, by omega, ⟨q, s, e1, d2, s3, Or.inl ⟨rfl, c1⟩⟩, a4⟩
/-- the next item -/
theorem ac_item {f k : Nat} (h : Ac w n f [50] k) : (w k = 0 ∧ k + 1 = n) ∨ (w k ≠ 0 ∧ ∃ e g, g < f ∧ It w k e ∧ Ac w n g [50] (e + 1)) := by
  obtain ⟨g, ys, t, hg, e, a⟩ := ac_n (by omega) (by omega) h
  rw [ex_50] at e
  unfold ex50 at e
  by_cases c0 : w k = 0
  · rw [if_pos c0] at e
    cases e
    have a' : Ac w n g [] (k + 1) := a
    cases g with
    | zero => exact Or.inl ⟨c0, a'.2⟩
    | succ g => exact a'.elim
  rw [if_neg c0] at e
  refine Or.inr ⟨c0, ?_⟩
  by_cases c1 : w k = 3 ∨ w k = 6
  · rw [if_pos c1] at e
    cases e
    have a' : Ac w n g (51 :: 34 :: [50]) (k + 1) := a
    obtain ⟨g1, ys1, t1, l1, e1, a1⟩ := ac_n (by omega) (by omega) a'
    rw [ex_51] at e1
    unfold ex51 at e1
    cases e1
    have a1' : Ac w n g1 (1 :: 23 :: 61 :: 34 :: [50]) (k + 1) := a1
    obtain ⟨g2, l2, d2, a2⟩ := ac_t (by omega) a1'
    obtain ⟨g3, l3, d3, a3⟩ := ac_t (by omega) a2
    obtain ⟨j, g4, l4, m4, e4, a4⟩ := ac_rule a3
    obtain ⟨g5, l5, d5, a5⟩ := ac_t (by omega) a4
    exact ⟨j, g5, by omega, ⟨d5, by omega, Or.inl ⟨c1, d2, d3, e4⟩⟩, a5⟩
  rw [if_neg c1] at e
  by_cases c2 : w k = 4
  · rw [if_pos c2] at e
    cases e
    have a' : Ac w n g (1 :: 33 :: 53 :: 54 :: 34 :: [50]) (k + 1) := a
    obtain ⟨g2, l2, d2, a2⟩ := ac_t (by omega) a'
    obtain ⟨g3, l3, d3, a3⟩ := ac_t (by omega) a2
    have hv : ∃ i g4, g4 < g3 ∧ k + 3 < i ∧ Vs w (k + 3) i ∧ Ac w n g4 (54 :: 34 :: [50]) i := by
      obtain ⟨g4, ys4, t4, l4, e4, a4⟩ := ac_n (by omega) (by omega) a3
      rw [ex_53] at e4
      unfold ex53 at e4
      by_cases c3 : w (k + 3) = 5
      · rw [if_pos c3] at e4
        cases e4
        exact ⟨k + 4, g4, l4, by omega, Or.inl ⟨c3, rfl⟩, a4⟩
      · rw [if_neg c3] at e4
        cases e4
        have a4' : Ac w n g4 (61 :: 16 :: 61 :: 54 :: 34 :: [50]) (k + 3) := a4
        obtain ⟨j, g5, l5, m5, e5, a5⟩ := ac_rule a4'
        obtain ⟨g6, l6, d6, a6⟩ := ac_t (by omega) a5
        obtain ⟨i, g7, l7, m7, e7, a7⟩ := ac_rule a6
        exact ⟨i, g7, by omega, by omega, Or.inr ⟨c3, j, e5, d6, e7⟩, a7⟩
    obtain ⟨i, g4, l4, m4, v4, a4⟩ := hv
    obtain ⟨g5, ys5, t5, l5, e5, a5⟩ := ac_n (by omega) (by omega) a4
    rw [ex_54] at e5
    unfold ex54 at e5
    by_cases c4 : w i = 9
    · rw [if_pos c4] at e5
      cases e5
      have a5' : Ac w n g5 (61 :: 34 :: [50]) (i + 1) := a5
      obtain ⟨j, g6, l6, m6, e6, a6⟩ := ac_rule a5'
      obtain ⟨g7, l7, d7, a7⟩ := ac_t (by omega) a6
      exact ⟨j, g7, by omega, ⟨d7, by omega, Or.inr (Or.inl ⟨c2, d2, d3, i, v4, Or.inr ⟨c4, e6⟩⟩)⟩, a7⟩
    · rw [if_neg c4] at e5
      cases e5
      have a5' : Ac w n g5 (34 :: [50]) i := a5
      obtain ⟨g7, l7, d7, a7⟩ := ac_t (by omega) a5'
      exact ⟨i, g7, by omega, ⟨d7, by omega, Or.inr (Or.inl ⟨c2, d2, d3, i, v4, Or.inl ⟨c4, rfl⟩⟩)⟩, a7⟩
  rw [if_neg c2] at e
  by_cases c3 : w k = 7 ∨ w k = 8
  · rw [if_pos c3] at e
    cases e
    have a' : Ac w n g (61 :: 17 :: 56 :: 57 :: 34 :: [50]) (k + 1) := a
    obtain ⟨j, g1, l1, m1, e1, a1⟩ := ac_rule a'
    obtain ⟨g2, l2, d2, a2⟩ := ac_t (by omega) a1
    obtain ⟨e3, g3, f3, l3, m3, b3, a3⟩ := ac_branches a2
    obtain ⟨g4, l4, d4, a4⟩ := ac_t (by omega) a3
    exact ⟨e3, g4, by omega, ⟨d4, by omega, Or.inr (Or.inr (Or.inl ⟨c3, j, f3, e1, d2, b3⟩))⟩, a4⟩
  rw [if_neg c3] at e
  by_cases c4 : w k = 11
  · rw [if_pos c4] at e
    cases e
    have a' : Ac w n g (61 :: 34 :: [50]) (k + 1) := a
    obtain ⟨j, g1, l1, m1, e1, a1⟩ := ac_rule a'
    obtain ⟨g2, l2, d2, a2⟩ := ac_t (by omega) a1
    exact ⟨j, g2, by omega, ⟨d2, by omega, Or.inr (Or.inr (Or.inr ⟨c4, e1⟩))⟩, a2⟩
  rw [if_neg c4] at e
  cases e
end ITM
end
end
section
section
/-! The reference: where an item ends. -/
section SGM
variable {w : Nat → Int}
/-- parentheses close, no question is open, and no ; stands here -/
def Sg (w : Nat → Int) (i j : Nat) : Prop := i ≤ j ∧ dp w i (j - i) = 0 ∧ aq w i (j - i) ≤ 0 ∧ ∀ m, i ≤ m → m < j → w m ≠ 34
theorem Sg.app {i m j : Nat} (h1 : Sg w i m) (h2 : Sg w m j) : Sg w i j := by
  obtain ⟨a1, a2, a3, a4⟩ := h1
  obtain ⟨b1, b2, b3, b4⟩ := h2
  have e : j - i = (m - i) + (j - m) := by omega
  have ei : i + (m - i) = m := by omega
  refine ⟨by omega, ?_, ?_, fun k k1 k2 => ?_⟩
  · rw [e, dp_app, a2, ei, b2]; omega
  · rw [e, aq_app a2, ei]; omega
  · by_cases z : k < m
    · exact a4 k k1 z
    · exact b4 k (by omega) k2
theorem Sg.w1 {i : Nat} (h1 : w i ≠ 32) (h2 : w i ≠ 34) (h3 : w i ≠ 36) (h4 : w i ≠ 37) : Sg w i (i + 1) := by
  rw [Sg, show i + 1 - i = 0 + 1 by first | rfl | omega, dp_s, aq_s]
  refine ⟨by omega, ?_, ?_, fun m m1 m2 => by rw [show m = i by first | rfl | omega]; exact h2⟩
  · rw [show i + 0 = i by first | rfl | omega, if_neg h3, if_neg h4]; rfl
  · rw [show i + 0 = i by first | rfl | omega, if_neg h1]
    show (if (0 : Int) < 0 then (0 : Int) else 0 + (if w i = 33 then -1 else 0)) ≤ 0
    rw [if_neg (by omega)]
    split <;> omega
theorem Sg.bl {i j : Nat} (hij : i ≤ j) (h : Bl w i (j - i)) : Sg w i j := by
  refine ⟨hij, h.1, by rw [h.2.1]; omega, fun m m1 m2 => ?_⟩
  have := (h.2.2.2 (m - i) (by omega)).1
  rw [show i + (m - i) = m by first | rfl | omega] at this
  unfold rwd at this
  omega
theorem Sg.eo {c i j : Nat} (h : Eo w c i j) : Sg w i j := Sg.bl (by have := h.pr.1; omega) h.pr.2.2.2.2.1
/-- a set in its parentheses -/
theorem Sg.set {p c : Nat} (h0 : w p = 36) (h1 : w (p + 1) = 1) (h2 : w (p + 2) = 38) (h3 : w (p + 3) = 23) (h4 : Eo w 6 (p + 4) c) (h5 : w c = 37) : Sg w p (c + 1) ∧ (∀ m, 1 ≤ m → m ≤ c - p → 1 ≤ dp w p m) ∧ dp w p (c + 1 - p) = 0 := by
  have hlt := h4.pr.1
  have hb := h4.pr.2.2.2.2.1
  have e0 : dp w p 0 = 0 := rfl
  have e1 : dp w p 1 = 1 := by rw [show (1 : Nat) = 0 + 1 by first | rfl | omega, dp_s, show p + 0 = p by first | rfl | omega, if_pos h0, e0]; rfl
  have e2 : dp w p 2 = 1 := by rw [show (2 : Nat) = 1 + 1 by first | rfl | omega, dp_s, if_neg (by omega), if_neg (by omega), e1]; rfl
  have e3 : dp w p 3 = 1 := by rw [show (3 : Nat) = 2 + 1 by first | rfl | omega, dp_s, if_neg (by omega), if_neg (by omega), e2]; rfl
  have e4 : dp w p 4 = 1 := by rw [show (4 : Nat) = 3 + 1 by first | rfl | omega, dp_s, if_neg (by omega), if_neg (by omega), e3]; rfl
  have up : ∀ m, 1 ≤ m → m ≤ c - p → 1 ≤ dp w p m := fun m m1 m2 => by
    by_cases z : m < 4
    · have : m = 1 ∨ m = 2 ∨ m = 3 := by omega
      rcases this with y | y | y <;> rw [y]
      · omega
      · omega
      · omega
    · have := (hb.2.2.1 (m - 4) (by omega)).1
      rw [show m = 4 + (m - 4) by first | rfl | omega, dp_app, e4]
      omega
  have dc : dp w p (c - p) = 1 := by
    rw [show c - p = 4 + (c - (p + 4)) by first | rfl | omega, dp_app, e4, hb.1]; rfl
  have d1 : dp w p (c + 1 - p) = 0 := by
    rw [show c + 1 - p = (c - p) + 1 by first | rfl | omega, dp_s, dc, show p + (c - p) = c by first | rfl | omega, if_neg (by omega), if_pos h5]; rfl
  have a0 : ∀ m, m ≤ c - p → aq w p (m + 1) = 0 := by
    intro m
    induction m with
    | zero =>
      intro _
      rw [aq_s, e0, if_neg (by omega), show p + 0 = p by first | rfl | omega, if_neg (by omega), if_neg (by omega)]; rfl
    | succ m ih =>
      intro hm
      rw [aq_s, if_pos (by have := up (m + 1) (by omega) hm; omega)]
      exact ih (by omega)
  refine ⟨⟨by omega, d1, ?_, fun m m1 m2 => ?_⟩, up, d1⟩
  · rw [show c + 1 - p = (c - p) + 1 by first | rfl | omega, a0 (c - p) (Nat.le_refl _)]
    omega
  · by_cases z : m < p + 4
    · have : m = p ∨ m = p + 1 ∨ m = p + 2 ∨ m = p + 3 := by omega
      rcases this with y | y | y | y <;> rw [y] <;> omega
    · by_cases y : m = c
      · rw [y]; omega
      · exact (Sg.eo h4).2.2.2 m (by omega) (by omega)
theorem Se.sg : ∀ {f p q : Nat}, Se w f p q → Sg w p q := by
  intro f
  induction f with
  | zero => intro p q h; exact h.elim
  | succ f ih =>
    intro p q h
    obtain ⟨h0, h1, h2, h3, c, h4, h5, h6⟩ := h
    have s := (Sg.set h0 h1 h2 h3 h4 h5).1
    rcases h6 with ⟨z, -⟩ | ⟨z, y⟩
    · rw [z]; exact s
    · exact (s.app (Sg.w1 (by omega) (by omega) (by omega) (by omega))).app (ih y)
theorem Ss.sg {p s : Nat} (h : Ss w p s) : Sg w p s := by
  rcases h with ⟨h1, h2⟩ | ⟨-, f, h⟩
  · rw [h2]; exact Sg.w1 (by omega) (by omega) (by omega) (by omega)
  · exact h.sg
theorem Br.sg : ∀ {f p e : Nat}, Br w f p e → Sg w p e := by
  intro f
  induction f with
  | zero => intro p q h; exact h.elim
  | succ f ih =>
    intro p e h
    obtain ⟨q, s, h1, h2, h3, h4⟩ := h
    have k := ((Sg.eo h1).app (Sg.w1 (by omega) (by omega) (by omega) (by omega))).app h3.sg
    rcases h4 with ⟨z, -⟩ | ⟨z, y⟩
    · rw [← z]; exact k
    · exact (k.app (Sg.w1 (by omega) (by omega) (by omega) (by omega))).app (ih y)
theorem Vs.sg {p i : Nat} (h : Vs w p i) : Sg w p i := by
  rcases h with ⟨h1, h2⟩ | ⟨-, j, h1, h2, h3⟩
  · rw [h2]; exact Sg.w1 (by omega) (by omega) (by omega) (by omega)
  · exact ((Sg.eo h1).app (Sg.w1 (by omega) (by omega) (by omega) (by omega))).app (Sg.eo h3)
theorem It.sg {k e : Nat} (h : It w k e) : Sg w k e := by
  obtain ⟨-, -, h⟩ := h
  have w3 : ∀ {i : Nat}, (w k ≠ 32 ∧ w k ≠ 34 ∧ w k ≠ 36 ∧ w k ≠ 37) → w (k + 1) = 1 → (w (k + 2) = 23 ∨ w (k + 2) = 33) → Sg w (k + 3) i → Sg w k i := fun h0 h1 h2 h3 => (((Sg.w1 (i := k) h0.1 h0.2.1 h0.2.2.1 h0.2.2.2).app (Sg.w1 (i := k + 1) (by omega) (by omega) (by omega) (by omega))).app (Sg.w1 (i := k + 2) (by omega) (by omega) (by omega) (by omega))).app h3
  rcases h with ⟨h0, h1, h2, h3⟩ | ⟨h0, h1, h2, i, h3, h4⟩ | ⟨h0, j, f, h1, h2, h3⟩ | ⟨h0, h1⟩
  · exact w3 ⟨by omega, by omega, by omega, by omega⟩ h1 (Or.inl h2) (Sg.eo h3)
  · have s := w3 ⟨by omega, by omega, by omega, by omega⟩ h1 (Or.inr h2) h3.sg
    rcases h4 with ⟨-, z⟩ | ⟨z, y⟩
    · rw [← z]; exact s
    · exact (s.app (Sg.w1 (i := i) (by omega) (by omega) (by omega) (by omega))).app (Sg.eo y)
  · exact (((Sg.w1 (i := k) (by omega) (by omega) (by omega) (by omega)).app (Sg.eo h1)).app (Sg.w1 (i := j) (by omega) (by omega) (by omega) (by omega))).app h3.sg
  · exact (Sg.w1 (i := k) (by omega) (by omega) (by omega) (by omega)).app (Sg.eo h1)
end SGM
section UNT
variable {G : mG} {d a N : Nat} {M : mM}
theorem s_until_end {k e : Nat} (hO : mOk M) (h : Wn M a N) (hi : It (wk M a) k e) (he : e < N) : Ci G y_MM_until (d + 2) [vr a, vi k, vi 34] M (fun x M' => M' = M ∧ x = e) := by
  have s := hi.sg
  exact s_MM_until ⟨by decide, by decide⟩ hO h s.1 he hi.1 (by rw [s.2.1]; omega) s.2.2.1 (fun t ht q => s.2.2.2 (k + t) (by omega) (by omega) q.1)
theorem s_until_bl {i j : Nat} {s : Int} (hO : mOk M) (h : Wn M a N) (hij : i ≤ j) (hb : Bl (wk M a) i (j - i)) (hj : j < N) (h1 : wk M a j = s) (hs : s = 16 ∨ s = 17 ∨ s = 33) : Ci G y_MM_until (d + 2) [vr a, vi i, vi s] M (fun x M' => M' = M ∧ x = j) := by
  refine s_MM_until ⟨by omega, by omega⟩ hO h hij hj h1 (by rw [hb.1]; omega) (by rw [hb.2.1]; omega) (fun t ht q => ?_)
  obtain ⟨q1, q2, q3⟩ := q
  have b := hb.2.2.1 t (by omega)
  have c := hb.2.2.2 t ht
  rcases hs with z | z | z
  · have := c.1; unfold rwd at this; omega
  · have := c.1; unfold rwd at this; omega
  · exact c.2 (by omega) (by omega) (by omega)
end UNT
end
section
/-! What a text means hangs on its own words alone: rules. -/
section CGA
variable {w w' : Nat → Int} {i j : Nat}
theorem dp_cg : ∀ l, (∀ k, i ≤ k → k < i + l → w k = w' k) → dp w i l = dp w' i l
  | 0, _ => rfl
  | l + 1, h => by rw [dp_s, dp_s, dp_cg l (fun k a b => h k a (by omega)), h (i + l) (by omega) (by omega)]
theorem lz_cg {k : Nat} (h : w k = w' k) (h1 : i < k → w (k - 1) = w' (k - 1)) : lz w i k = lz w' i k := by
  unfold lz
  rw [h]
  by_cases c : i < k
  · rw [h1 c]
  · have n1 : ∀ p : Prop, ¬ (i < k ∧ p) := fun p u => c u.1
    rw [if_neg (n1 _), if_neg (n1 _)]
theorem ll_cg {m : Nat} (h : ∀ k, i ≤ k → k < i + m + 1 → w k = w' k) : ll w i m = ll w' i m := by
  unfold ll
  rw [dp_cg m (fun k a b => h k a (by omega)), lz_cg (h (i + m) (by omega) (by omega)) (fun u => h _ (by omega) (by omega))]
theorem bh_cg : ∀ l, (∀ k, i ≤ k → k < i + l → w k = w' k) → bh w i l = bh w' i l
  | 0, _ => rfl
  | l + 1, h => by rw [bh_s, bh_s, bh_cg l (fun k a b => h k a (by omega)), ll_cg (fun k a b => h k a (by omega))]
theorem lo_cg (hij : i < j) (h : ∀ k, i ≤ k → k < j → w k = w' k) : lo w i j = lo w' i j := by
  unfold lo
  rw [bh_cg (j - i) (fun k a b => h k a (by omega)), h i (Nat.le_refl _) hij]
theorem Ex_cg : ∀ (n c i j : Nat), (∀ k, i ≤ k → k < j → w k = w' k) → Ex w n c i j → Ex w' n c i j := by
  intro n
  induction n with
  | zero => intro c i j _ h; exact h.elim
  | succ n ih =>
    intro c i j hk h
    have lt : ∀ {c i j : Nat}, Ex w n c i j → i < j := fun {c i j} u => (Eo.pr ⟨n, u⟩).1
    have hij : i < j := (Eo.pr ⟨n + 1, h⟩).1
    have two : ∀ {P : Int → Prop} {a b : Nat}, (∃ m, P (w m) ∧ Ex w n a i m ∧ Ex w n b (m + 1) j) → ∃ m, P (w' m) ∧ Ex w' n a i m ∧ Ex w' n b (m + 1) j := fun {P a b} u => by
      obtain ⟨m, u1, u2, u3⟩ := u
      have l2 := lt u2
      have l3 := lt u3
      exact ⟨m, by rw [← hk m (by omega) (by omega)]; exact u1, ih a i m (fun k k1 k2 => hk k k1 (by omega)) u2, ih b (m + 1) j (fun k k1 k2 => hk k (by omega) k2) u3⟩
    rw [Ex] at h ⊢
    by_cases c0 : c = 0
    · rw [if_pos c0] at h ⊢
      have wi := hk i (Nat.le_refl _) hij
      have wj := hk (j - 1) (by omega) (by omega)
      rcases h with h | h | h | h
      · rw [wi] at h
        exact Or.inl h
      · rw [wi] at h
        exact Or.inr (Or.inl ⟨h.1, ih 0 _ _ (fun k k1 k2 => hk k (by omega) k2) h.2⟩)
      · have l := lt h.2.2
        rw [wi, wj] at h
        exact Or.inr (Or.inr (Or.inl ⟨h.1, h.2.1, ih 6 _ _ (fun k k1 k2 => hk k (by omega) (by omega)) h.2.2⟩))
      · have l := lt h.2.2.2
        rw [wi, wj, hk (i + 1) (by omega) (by omega)] at h
        exact Or.inr (Or.inr (Or.inr ⟨h.1, h.2.1, h.2.2.1, ih 7 _ _ (fun k k1 k2 => hk k (by omega) (by omega)) h.2.2.2⟩))
    rw [if_neg c0] at h ⊢
    by_cases c1 : c = 1
    · rw [if_pos c1] at h ⊢
      exact h.imp (ih 0 i j hk) (fun u => two (P := fun x => x = 26 ∨ x = 27 ∨ x = 28) u)
    rw [if_neg c1] at h ⊢
    by_cases c2 : c = 2
    · rw [if_pos c2] at h ⊢
      exact h.imp (ih 1 i j hk) (fun u => two (P := fun x => x = 24 ∨ x = 25) u)
    rw [if_neg c2] at h ⊢
    by_cases c3 : c = 3
    · rw [if_pos c3] at h ⊢
      rcases h with h | h | h
      · exact Or.inl (ih 2 i j hk h)
      · exact Or.inr (Or.inl (two (P := fun x => 18 ≤ x ∧ x ≤ 23) h))
      · rw [hk i (Nat.le_refl _) hij] at h
        exact Or.inr (Or.inr ⟨h.1, ih 3 _ _ (fun k k1 k2 => hk k (by omega) k2) h.2⟩)
    rw [if_neg c3] at h ⊢
    by_cases c4 : c = 4
    · rw [if_pos c4] at h ⊢
      exact h.imp (ih 3 i j hk) (fun u => two (P := fun x => x = 29) u)
    rw [if_neg c4] at h ⊢
    by_cases c5 : c = 5
    · rw [if_pos c5] at h ⊢
      exact h.imp (ih 4 i j hk) (fun u => two (P := fun x => x = 30) u)
    rw [if_neg c5] at h ⊢
    by_cases c6 : c = 6
    · rw [if_pos c6] at h ⊢
      rcases h with h | ⟨m, q, h1, h2, h3, h4, h5⟩
      · exact Or.inl (ih 5 i j hk h)
      · have l3 := lt h3
        have l4 := lt h4
        have l5 := lt h5
        exact Or.inr ⟨m, q, by rw [← hk m (by omega) (by omega)]; exact h1, by rw [← hk q (by omega) (by omega)]; exact h2, ih 5 i m (fun k k1 k2 => hk k k1 (by omega)) h3, ih 6 (m + 1) q (fun k k1 k2 => hk k (by omega) (by omega)) h4, ih 6 (q + 1) j (fun k k1 k2 => hk k (by omega) k2) h5⟩
    rw [if_neg c6] at h ⊢
    by_cases c7 : c = 7
    · rw [if_pos c7] at h ⊢
      exact h.imp (ih 6 i j hk) (fun u => two (P := fun x => x = 35) u)
    rw [if_neg c7] at h
    exact h.elim
theorem Eo.cg {c : Nat} (h : Eo w c i j) (hk : ∀ k, i ≤ k → k < j → w k = w' k) : Eo w' c i j := by
  obtain ⟨n, h⟩ := h
  exact ⟨n, Ex_cg n c i j hk h⟩
end CGA
section CGB
variable {w w' E E' pl pl' : Nat → Int} {cv cv' : Nat → vrs}
def rlC (w w' E E' pl pl' : Nat → Int) (cv cv' : Nat → vrs) (i j : Nat) : Prop := ∀ k, i ≤ k → k < j → w k = w' k ∧ pl k = pl' k ∧ (w k = 1 → E k = E' k) ∧ ((w k = 1 ∨ w k = 2 ∨ w k = 12 ∨ w k = 13) → cv k = cv' k)
theorem rlC.sub {i j a b : Nat} (h : rlC w w' E E' pl pl' cv cv' i j) (ha : i ≤ a) (hb : b ≤ j) : rlC w w' E E' pl pl' cv cv' a b := fun k k1 k2 => h k (by omega) (by omega)
theorem rlC.ww {i j : Nat} (h : rlC w w' E E' pl pl' cv cv' i j) : ∀ k, i ≤ k → k < j → w k = w' k := fun k k1 k2 => (h k k1 k2).1
theorem rl_cg : ∀ (n c i j : Nat), 2 * (j - i) + c ≤ n → Eoc w c i j → rlC w w' E E' pl pl' cv cv' i j → kdq w E c i j = kdq w' E' c i j ∧ fl w E pl c i j = fl w' E' pl' c i j ∧ ∀ x, vlq w cv pl c x i j = vlq w' cv' pl' c x i j := by
  refine Eo_ind (P := fun c i j => rlC w w' E E' pl pl' cv cv' i j → kdq w E c i j = kdq w' E' c i j ∧ fl w E pl c i j = fl w' E' pl' c i j ∧ ∀ x, vlq w cv pl c x i j = vlq w' cv' pl' c x i j) ?_ ?_ ?_ ?_ ?_ ?_ ?_ ?_
  · intro i m q j h1 h2 h3 h4 h5 h6 h7 h8 e1 e2 e3 i1 i2 i3 hc
    have cm := hc m h2 h3
    have l' : lo w' i j = (m : Int) := by rw [← lo_cg (by omega) hc.ww]; exact h1
    have m' : w' m = 32 := by rw [← cm.1]; exact h6
    have q' : w' q = 33 := by rw [← (hc q (by omega) h5).1]; exact h7
    have c' : clq w' m j = q := clq_eo (e2.cg (fun k k1 k2 => hc.ww k (by omega) (by omega))) q' h5
    obtain ⟨a1, a2, a3⟩ := i1 (hc.sub (Nat.le_refl _) (by omega))
    obtain ⟨b1, b2, b3⟩ := i2 (hc.sub (by omega) (by omega))
    obtain ⟨d1, d2, d3⟩ := i3 (hc.sub (by omega) (Nat.le_refl _))
    refine ⟨?_, ?_, fun x => ?_⟩
    · rw [kd_ask h1 h2 h3 h6 h8, kd_ask l' h2 h3 m' c', d1]
    · rw [fl_ask h1 h2 h3 h6 h8, fl_ask l' h2 h3 m' c', a1, b1, d1, a2, b2, d2, cm.2.1]
    · rw [vl_ask h1 h2 h3 h6 h8, vl_ask l' h2 h3 m' c', a3 0, b3 0, d3 0]
  · intro i m j h1 h2 h3 h4 e1 e2 i1 i2 hc
    have cm := hc m h2 h3
    have l' : lo w' i j = (m : Int) := by rw [← lo_cg (by omega) hc.ww]; exact h1
    obtain ⟨a1, a2, a3⟩ := i1 (hc.sub (Nat.le_refl _) (by omega))
    obtain ⟨b1, b2, b3⟩ := i2 (hc.sub (by omega) (Nat.le_refl _))
    have n32 : w m ≠ 32 := by omega
    have n32' : w' m ≠ 32 := by rw [← cm.1]; exact n32
    refine ⟨?_, ?_, fun x => ?_⟩
    · rw [kd_bin h1 h2 h3 n32, kd_bin l' h2 h3 n32', cm.1]
    · rw [fl_bin h1 h2 h3 n32, fl_bin l' h2 h3 n32', a1, b1, a2, b2, cm.1, cm.2.1]
    · by_cases c1 : w m = 29
      · rw [vl_and h1 h2 h3 c1, vl_and l' h2 h3 (by rw [← cm.1]; exact c1), a3 0, b3 0]
      by_cases c2 : w m = 30
      · rw [vl_or h1 h2 h3 c2, vl_or l' h2 h3 (by rw [← cm.1]; exact c2), a3 0, b3 0]
      · rw [vl_bin h1 h2 h3 n32 c1 c2, vl_bin l' h2 h3 n32' (by rw [← cm.1]; exact c1) (by rw [← cm.1]; exact c2), a3 0, b3 0, cm.1, cm.2.1]
  · intro i j h1 h2 h3 h4 e1 i1 hc
    have l' : lo w' i j = -1 := by rw [← lo_cg h2 hc.ww]; exact h1
    have m' : w' i = 36 := by rw [← (hc i (Nat.le_refl _) h2).1]; exact h3
    obtain ⟨a1, a2, a3⟩ := i1 (hc.sub (by omega) (by omega))
    refine ⟨?_, ?_, fun x => ?_⟩
    · rw [kd_par h1 h2 h3, kd_par l' h2 m', a1]
    · rw [fl_par h1 h2 h3, fl_par l' h2 m', a2]
    · rw [vl_par h1 h2 h3, vl_par l' h2 m', a3 0]
  · intro i j h1 h2 h3 e1 i1 hc
    have ci := hc i (Nat.le_refl _) h2
    have l' : lo w' i j = -1 := by rw [← lo_cg h2 hc.ww]; exact h1
    obtain ⟨a1, a2, a3⟩ := i1 (hc.sub (by omega) (Nat.le_refl _))
    rcases h3 with h3 | h3
    · have m' : w' i = 25 := by rw [← ci.1]; exact h3
      refine ⟨?_, ?_, fun x => ?_⟩
      · rw [kd_num h1 h2 (Or.inl h3), kd_num l' h2 (Or.inl m')]
      · rw [fl_neg h1 h2 h3, fl_neg l' h2 m', a1, a2, ci.2.1]
      · rw [vl_neg h1 h2 h3, vl_neg l' h2 m', a3 0]
    · have m' : w' i = 31 := by rw [← ci.1]; exact h3
      refine ⟨?_, ?_, fun x => ?_⟩
      · rw [kd_tru h1 h2 (Or.inl h3), kd_tru l' h2 (Or.inl m')]
      · rw [fl_not h1 h2 h3, fl_not l' h2 m', a1, a2, ci.2.1]
      · rw [vl_not h1 h2 h3, vl_not l' h2 m', a3 0]
  · intro i h1 h3 hc
    have ci := hc i (Nat.le_refl _) (by omega)
    have hij : i < i + 1 := by omega
    have l' : lo w' i (i + 1) = -1 := by rw [← lo_cg hij hc.ww]; exact h1
    have h3' : w' i = 1 ∨ w' i = 2 ∨ w' i = 12 ∨ w' i = 13 := by rw [← ci.1]; exact h3
    refine ⟨?_, ?_, fun x => ?_⟩
    · by_cases c1 : w i = 1
      · rw [kd_nam h1 hij c1, kd_nam l' hij (by rw [← ci.1]; exact c1), ci.2.2.1 c1]
      by_cases c2 : w i = 2
      · rw [kd_num h1 hij (Or.inr (Or.inl c2)), kd_num l' hij (Or.inr (Or.inl (by rw [← ci.1]; exact c2)))]
      · have c3 : w i = 12 ∨ w i = 13 := by omega
        rw [kd_tru h1 hij (Or.inr c3), kd_tru l' hij (Or.inr (by rw [← ci.1]; exact c3))]
    · rw [fl_leaf h1 hij h3, fl_leaf l' hij h3', ci.2.1, ← ci.1]
      by_cases c1 : w i = 1
      · rw [ci.2.2.1 c1]
      · rw [if_neg (fun u => c1 u.1), if_neg (fun u => c1 u.1)]
    · rw [vl_leaf h1 hij h3, vl_leaf l' hij h3']
      exact ci.2.2.2 h3
  · intro i j h1 h2 h3 h4 e1 i1 hc
    have ci := hc i (Nat.le_refl _) h2
    have l' : lo w' i j = -1 := by rw [← lo_cg h2 hc.ww]; exact h1
    have h3' : w' i = 14 ∨ w' i = 15 := by rw [← ci.1]; exact h3
    obtain ⟨a1, a2, a3⟩ := i1 (hc.sub (by omega) (by omega))
    refine ⟨?_, ?_, fun x => ?_⟩
    · rw [kd_num h1 h2 (Or.inr (Or.inr h3)), kd_num l' h2 (Or.inr (Or.inr h3'))]
    · rw [fl_lst h1 h2 h3, fl_lst l' h2 h3', a1, a2, ci.2.1]
    · rw [vl_lst h1 h2 h3, vl_lst l' h2 h3', ← ci.1]
      exact a3 (w i)
  · intro i j h1 h2 e1 i1 hc
    obtain ⟨a1, a2, a3⟩ := i1 hc
    have c' : lcq w' i (j - i) = 0 := lcq_eo (e1.cg hc.ww) (Nat.le_refl _)
    refine ⟨?_, ?_, fun x => ?_⟩
    · rw [kd_l1 h1 h2, kd_l1 h1 c', a1]
    · rw [fl_l1 h1 h2, fl_l1 h1 c', a2]
    · rw [vl_l1 h1 h2, vl_l1 h1 c', a3 0]
  · intro i m j h1 h2 h3 h4 h5 e1 e2 i1 i2 hc
    obtain ⟨a1, a2, a3⟩ := i1 (hc.sub (Nat.le_refl _) (by omega))
    obtain ⟨b1, b2, b3⟩ := i2 (hc.sub (by omega) (Nat.le_refl _))
    have c' : lcq w' i (j - i) = m - i + 1 := lcq_7 (e1.cg (fun k k1 k2 => hc.ww k k1 (by omega))) (by rw [← (hc m h2 h3).1]; exact h5) (e2.cg (fun k k1 k2 => hc.ww k (by omega) k2))
    refine ⟨?_, ?_, fun x => ?_⟩
    · rw [kd_ln h1 h4 h2, kd_ln h1 c' h2, a1, b1]
    · rw [fl_ln h1 h4 h2, fl_ln h1 c' h2, a2, b2]
    · rw [vl_ln h1 h4 h2, vl_ln h1 c' h2, a3 x, b3 0]
theorem rl_cg0 {i j : Nat} (eo : Eo w 6 i j) (hc : rlC w w' E E' pl pl' cv cv' i j) : kdq w E 0 i j = kdq w' E' 0 i j ∧ fl w E pl 0 i j = fl w' E' pl' 0 i j ∧ vlq w cv pl 0 0 i j = vlq w' cv' pl' 0 0 i j := by
  obtain ⟨a, b, c⟩ := rl_cg (w' := w') (E' := E') (pl' := pl') (cv' := cv') _ 0 i j (Nat.le_refl _) (Or.inl ⟨rfl, eo⟩) hc
  exact ⟨a, b, c 0⟩
end CGB
end
end
section
section
/-! What a text means hangs on its own words alone: items. -/
theorem fd_cg {α : Type} {p q : α → Bool} : ∀ (l : List α), (∀ x, x ∈ l → p x = q x) → l.find? p = l.find? q
  | [], _ => rfl
  | a :: t, h => by
    rw [List.find?_cons, List.find?_cons, h a (by simp), fd_cg t (fun x hx => h x (by simp [hx]))]
/-- two readings of the same N words -/
def AgW (w w' pl pl' nq nq' : Nat → Int) (sm sm' : Nat → Nat → Prop) (N : Nat) : Prop := (∀ j, j < N → w j = w' j ∧ pl j = pl' j ∧ (w j = 2 → nq j = nq' j)) ∧ ∀ x v, x < N → v < N → w x = 1 → w v = 1 → (sm x v ↔ sm' x v)
/-- the names stand among the words -/
def NmW (w : Nat → Int) (N : Nat) (nms : List nm9) : Prop := ∀ e, e ∈ nms → e.1 < N ∧ w e.1 = 1
section CGC
variable {w w' pl pl' nq nq' : Nat → Int} {sm sm' : Nat → Nat → Prop} {N i j k e q : Nat} {nms : List nm9} {s : st9} {co tr : Int}
theorem fnd_cg (ag : AgW w w' pl pl' nq nq' sm sm' N) (nm : NmW w N nms) (hk : k < N) (h1 : w k = 1) : fnd9 sm nms k = fnd9 sm' nms k := by
  unfold fnd9
  refine fd_cg nms (fun e he => ?_)
  have eq : sm e.1 k = sm' e.1 k := propext (ag.2 e.1 k (nm e he).1 hk (nm e he).2 h1)
  rw [eq]
theorem e9_cg (ag : AgW w w' pl pl' nq nq' sm sm' N) (nm : NmW w N nms) (hk : k < N) (h1 : w k = 1) : E9 sm nms co k = E9 sm' nms co k := by
  unfold E9
  rw [fnd_cg ag nm hk h1]
theorem cv9_cg (ag : AgW w w' pl pl' nq nq' sm sm' N) (nm : NmW w N nms) (hk : k < N) : cv9 w nq sm nms k = cv9 w' nq' sm' nms k := by
  unfold cv9
  rw [← (ag.1 k hk).1]
  by_cases c1 : w k = 1
  · rw [if_pos c1, if_pos c1, fnd_cg ag nm hk c1]
  · rw [if_neg c1, if_neg c1]
    by_cases c2 : w k = 2
    · rw [if_pos c2, if_pos c2, (ag.1 k hk).2.2 c2]
    · rw [if_neg c2, if_neg c2]
theorem rlC_of (ag : AgW w w' pl pl' nq nq' sm sm' N) (nm : NmW w N nms) (hj : j ≤ N) : rlC w w' (E9 sm nms co) (E9 sm' nms co) pl pl' (cv9 w nq sm nms) (cv9 w' nq' sm' nms) i j := fun k k1 k2 => ⟨(ag.1 k (by omega)).1, (ag.1 k (by omega)).2.1, fun h => e9_cg ag nm (by omega) h, fun _ => cv9_cg ag nm (by omega)⟩
theorem AgW.eo {c : Nat} (ag : AgW w w' pl pl' nq nq' sm sm' N) (eo : Eo w c i j) (hj : j ≤ N) : Eo w' c i j := eo.cg (fun k _ k2 => (ag.1 k (by omega)).1)
theorem rf_cg (ag : AgW w w' pl pl' nq nq' sm sm' N) (nm : NmW w N nms) (eo : Eo w 6 i j) (hj : j ≤ N) : rf9 w pl sm nms co tr i j = rf9 w' pl' sm' nms co tr i j := by
  obtain ⟨a, b, -⟩ := rl_cg0 eo (rlC_of (co := co) (i := i) ag nm hj)
  have lt := eo.pr.1
  unfold rf9
  rw [a, b, (ag.1 i (by omega)).2.1]
theorem vq_cg (ag : AgW w w' pl pl' nq nq' sm sm' N) (nm : NmW w N nms) (eo : Eo w 6 i j) (hj : j ≤ N) : vlq w (cv9 w nq sm nms) pl 0 0 i j = vlq w' (cv9 w' nq' sm' nms) pl' 0 0 i j := (rl_cg0 eo (rlC_of (co := 0) (i := i) ag nm hj)).2.2
theorem AgW.nx {x : Int} {f : Nat} (ag : AgW w w' pl pl' nq nq' sm sm' N) (h1 : k ≤ e) (h2 : e ≤ k + f) (he : e < N) (h3 : w e = x) (h4 : ∀ j, k ≤ j → j < e → w j ≠ x) : nxq w x f k = e ∧ nxq w' x f k = e := ⟨nxq_at h1 h2 h3 h4, nxq_at h1 h2 (by rw [← (ag.1 e he).1]; exact h3) (fun j a b => by rw [← (ag.1 j (by omega)).1]; exact h4 j a b)⟩
theorem sef_cg (ag : AgW w w' pl pl' nq nq' sm sm' N) (nm : NmW w N nms) : ∀ (f0 k q : Nat), Se w f0 k q → q < N → ∀ (f : Nat) (seen : List Nat), sef w pl sm N nms f k seen = sef w' pl' sm' N nms f k seen := by
  intro f0
  induction f0 with
  | zero => intro k q h; exact h.elim
  | succ f0 ih =>
    intro k q h hq f seen
    have sg := h.sg.1
    obtain ⟨h0, h1, h2, h3, c, eo, h5, h6⟩ := h
    have lt := eo.pr.1
    have cq : c + 1 ≤ q := by
      rcases h6 with ⟨y, -⟩ | ⟨-, y⟩
      · omega
      · have := y.sg.1
        omega
    cases f with
    | zero => rfl
    | succ f =>
      have fe := fnd_cg (k := k + 1) ag nm (by omega) h1
      have c1 : cpq w (k + 4) N = c := cpq_at eo h5 (by omega)
      have c2 : cpq w' (k + 4) N = c := cpq_at (ag.eo eo (by omega)) (by rw [← (ag.1 c (by omega)).1]; exact h5) (by omega)
      cases hf : fnd9 sm nms (k + 1) with
      | none =>
        rw [sefc_none hf, sefc_none (by rw [← fe]; exact hf), (ag.1 (k + 1) (by omega)).2.1]
      | some e =>
        rw [sefc_some hf, sefc_some (sm := sm') (pl := pl') (W := w') (by rw [← fe]; exact hf), c1, c2, (ag.1 (k + 1) (by omega)).2.1, rf_cg ag nm eo (by omega), ← (ag.1 (c + 1) (by omega)).1]
        by_cases w29 : w (c + 1) = 29
        · rw [if_pos w29, if_pos w29]
          have y := (h6.resolve_left (fun u => u.2 w29)).2
          rw [ih (c + 2) q y hq f (e.1 :: seen)]
        · rw [if_neg w29, if_neg w29]
theorem sef_at : ∀ (f0 k q : Nat), Se w f0 k q → q < N → ∀ (f : Nat) (seen : List Nat), q ≤ k + f → (sef w pl sm N nms f k seen).1.1 = 0 → (sef w pl sm N nms f k seen).2 = q := by
  intro f0
  induction f0 with
  | zero => intro k q h; exact h.elim
  | succ f0 ih =>
    intro k q h hq f seen hf
    obtain ⟨h0, h1, h2, h3, c, eo, h5, h6⟩ := h
    have lt := eo.pr.1
    have cq : c + 1 ≤ q := by
      rcases h6 with ⟨y, -⟩ | ⟨-, y⟩
      · omega
      · have := y.sg.1
        omega
    obtain ⟨f, rfl⟩ : ∃ f1, f = f1 + 1 := ⟨f - 1, by omega⟩
    have c1 : cpq w (k + 4) N = c := cpq_at eo h5 (by omega)
    cases hf9 : fnd9 sm nms (k + 1) with
    | none =>
      rw [sefc_none hf9]
      exact fun u => absurd u (by simp)
    | some e =>
      rw [sefc_some hf9, c1]
      by_cases e3 : e.2.1 = 3
      · rw [if_neg (fun u => u e3)]
        by_cases m : e.1 ∈ seen
        · rw [if_pos m]
          exact fun u => absurd u (by simp)
        · rw [if_neg m]
          by_cases r0 : (rf9 w pl sm nms 0 e.2.2.1 (k + 4) c).1 = 0
          · rw [if_neg (fun u => u r0)]
            by_cases w29 : w (c + 1) = 29
            · rw [if_pos w29]
              have y := (h6.resolve_left (fun u => u.2 w29)).2
              exact ih (c + 2) q y hq f (e.1 :: seen) (by omega)
            · rw [if_neg w29]
              have y := (h6.resolve_right (fun u => w29 u.1)).1
              exact fun _ => y.symm
          · rw [if_pos r0]
            exact fun u => absurd u r0
      · rw [if_pos e3]
        exact fun u => absurd u (by simp)
theorem brf_cg (ag : AgW w w' pl pl' nq nq' sm sm' N) (nm : NmW w N nms) (he : e < N) : ∀ (f0 p : Nat), Br w f0 p e → 1 ≤ p → ∀ (f b : Nat), brf w pl sm N nms e f p b = brf w' pl' sm' N nms e f p b := by
  intro f0
  induction f0 with
  | zero => intro p h; exact h.elim
  | succ f0 ih =>
    intro p h hp f b
    have sg := h.sg.1
    obtain ⟨q, s, eo5, w33, ss, h4⟩ := h
    have eo := eo5.one (show 5 ≤ 6 by omega)
    have lt := eo.pr.1
    have sgs := ss.sg.1
    have se : s ≤ e := by
      rcases h4 with ⟨y, -⟩ | ⟨-, y⟩
      · omega
      · have := y.sg.1
        omega
    cases f with
    | zero => rfl
    | succ f =>
      have c1 : clq w (p - 1) N = q := clq_eo (by rw [show p - 1 + 1 = p by first | rfl | omega]; exact eo) w33 (by omega)
      have c2 : clq w' (p - 1) N = q := clq_eo (by rw [show p - 1 + 1 = p by first | rfl | omega]; exact ag.eo eo (by omega)) (by rw [← (ag.1 q (by omega)).1]; exact w33) (by omega)
      have nxt : ∀ b, brf w pl sm N nms e f (s + 1) b = brf w' pl' sm' N nms e f (s + 1) b := fun b => by
        rcases h4 with ⟨y, -⟩ | ⟨-, y⟩
        · rw [brfc_e (by omega), brfc_e (by omega)]
        · exact ih (s + 1) y (by omega) f b
      rw [brf, brf, c1, c2, (ag.1 p (by omega)).2.1, rf_cg ag nm eo (by omega), ← (ag.1 (q + 1) (by omega)).1]
      rcases ss with ⟨w10, es⟩ | ⟨w10, f1, hse⟩
      · rw [if_pos w10, if_pos w10]
        have e3 : q + 3 = s + 1 := by omega
        rw [e3, nxt]
      · rw [if_neg w10, if_neg w10]
        have s1 := sef_cg ag nm f1 (q + 1) s hse (by omega) N []
        have s2 : (sef w pl sm N nms N (q + 1) []).1.1 = 0 → (sef w pl sm N nms N (q + 1) []).2 = s := sef_at f1 (q + 1) s hse (by omega) N [] (by omega)
        rw [s1] at s2
        rw [s1]
        by_cases z : (sef w' pl' sm' N nms N (q + 1) []).1.1 = 0
        · rw [s2 z, nxt]
        · rw [if_pos z, if_pos z]
theorem itr_cg (ag : AgW w w' pl pl' nq nq' sm sm' N) (nm : NmW w N s.1) (he : e < N) (h1 : w (k + 1) = 1) (eo : Eo w 6 (k + 3) e) : itr w pl nq sm k e s = itr w' pl' nq' sm' k e s := by
  have lt := eo.pr.1
  have a := fun co => rl_cg0 eo (rlC_of (co := co) (i := k + 3) ag nm (Nat.le_of_lt he))
  unfold itr
  simp only []
  rw [← (ag.1 k (by omega)).1, ← (ag.1 k (by omega)).2.1, ← (ag.1 (k + 1) (by omega)).2.1, fnd_cg (k := k + 1) ag nm (by omega) h1, (a _).1, (a _).2.1, (a 0).2.2]
theorem itt_cg (ag : AgW w w' pl pl' nq nq' sm sm' N) (nm : NmW w N s.1) (he : e < N) (eo : Eo w 6 (k + 1) e) : itt w pl sm k e s = itt w' pl' sm' k e s := by
  have lt := eo.pr.1
  unfold itt
  simp only []
  rw [rf_cg ag nm eo (by omega), (ag.1 k (by omega)).2.1]
theorem itv_cg (ag : AgW w w' pl pl' nq nq' sm sm' N) (nm : NmW w N s.1) (he : e < N) (h1 : w (k + 1) = 1) (vs : Vs w (k + 3) i) (hi : (w i ≠ 9 ∧ i = e) ∨ (w i = 9 ∧ Eo w 6 (i + 1) e)) : itv w pl nq sm N k e s = itv w' pl' nq' sm' N k e s := by
  have ie : i ≤ e := by
    rcases hi with ⟨-, y⟩ | ⟨-, y⟩
    · omega
    · have := y.pr.1
      omega
  have ki := vs.sg.1
  have wk := (ag.1 (k + 3) (by omega)).1
  have wi := (ag.1 i (by omega)).1
  have ini : (if w (k + 3) = 5 then k + 4 else nxq w 9 (e - (k + 3)) (k + 3)) = i ∧ (if w' (k + 3) = 5 then k + 4 else nxq w' 9 (e - (k + 3)) (k + 3)) = i := by
    rcases vs with ⟨w5, ei⟩ | ⟨w5, j, eo0, w16, eo1⟩
    · rw [if_pos w5, if_pos (by rw [← wk]; exact w5)]
      omega
    · have a0 := eo0.pr.1
      have a1 := eo1.pr.1
      have no9 : ∀ t, k + 3 ≤ t → t < i → w t ≠ 9 := fun t t1 t2 => by
        by_cases c1 : t < j
        · exact eo0.no9 (Or.inl rfl) t1 c1
        · by_cases c2 : t = j
          · rw [c2, w16]; decide
          · exact eo1.no9 (Or.inl rfl) (by omega) t2
      have no9' : ∀ t, k + 3 ≤ t → t < i → w' t ≠ 9 := fun t t1 t2 => by
        rw [← (ag.1 t (by omega)).1]
        exact no9 t t1 t2
      rw [if_neg w5, if_neg (by rw [← wk]; exact w5)]
      rcases hi with ⟨-, ei⟩ | ⟨w9, eo2⟩
      · rw [nxq_no (fun t t1 t2 => no9 t t1 (by omega)), nxq_no (fun t t1 t2 => no9' t t1 (by omega))]
        omega
      · have := eo2.pr.1
        exact ag.nx (by omega) (by omega) (by omega) w9 no9
  have e1 : ∀ (W P Q : Nat → Int) (S : Nat → Nat → Prop), (if W (k + 3) = 5 then k + 4 else nxq W 9 (e - (k + 3)) (k + 3)) = i → itv W P Q S N k e s = if s.2.1.1 = 12 then (s.1, s.2.1, (5, P k)) else if fnd9 S s.1 (k + 1) ≠ none then (s.1, s.2.1, (2, P (k + 1))) else if (vf9 W P S s.1 k e (nxq W 16 N (k + 3)) i).1 ≠ 0 then (s.1, s.2.1, vf9 W P S s.1 k e (nxq W 16 N (k + 3)) i) else if (vw9 W P Q S s.1 k e (nxq W 16 N (k + 3)) i).1 ≠ 0 then (s.1, s.2.1, vw9 W P Q S s.1 k e (nxq W 16 N (k + 3)) i) else (s.1 ++ [(k + 1, 3, (if W (k + 3) = 5 then 1 else 0), (0, 0, 1))], (s.2.1.1 + 1, s.2.1.2), (0, 0)) := fun W P Q S h => by
    rw [← h]
    rfl
  have r2 : w i = 9 → ∀ co tr, rf9 w pl sm s.1 co tr (i + 1) e = rf9 w' pl' sm' s.1 co tr (i + 1) e ∧ vlq w (cv9 w nq sm s.1) pl 0 0 (i + 1) e = vlq w' (cv9 w' nq' sm' s.1) pl' 0 0 (i + 1) e ∧ pl (i + 1) = pl' (i + 1) := fun w9 co tr => by
    have eo := (hi.resolve_left (fun u => u.1 w9)).2
    have lt := eo.pr.1
    exact ⟨rf_cg ag nm eo (by omega), vq_cg ag nm eo (by omega), (ag.1 (i + 1) (by omega)).2.1⟩
  have r01 : w (k + 3) ≠ 5 → ∃ j, (nxq w 16 N (k + 3) = j ∧ nxq w' 16 N (k + 3) = j) ∧ (∀ co tr, rf9 w pl sm s.1 co tr (k + 3) j = rf9 w' pl' sm' s.1 co tr (k + 3) j ∧ rf9 w pl sm s.1 co tr (j + 1) i = rf9 w' pl' sm' s.1 co tr (j + 1) i) ∧ (vlq w (cv9 w nq sm s.1) pl 0 0 (k + 3) j = vlq w' (cv9 w' nq' sm' s.1) pl' 0 0 (k + 3) j ∧ vlq w (cv9 w nq sm s.1) pl 0 0 (j + 1) i = vlq w' (cv9 w' nq' sm' s.1) pl' 0 0 (j + 1) i) ∧ pl (j + 1) = pl' (j + 1) := fun w5 => by
    obtain ⟨-, j, eo0, w16, eo1⟩ := vs.resolve_left (fun u => w5 u.1)
    have a0 := eo0.pr.1
    have a1 := eo1.pr.1
    exact ⟨j, ag.nx (by omega) (by omega) (by omega) w16 (fun t t1 t2 => eo0.no9 (Or.inr (Or.inl rfl)) t1 t2), fun co tr => ⟨rf_cg ag nm eo0 (by omega), rf_cg ag nm eo1 (by omega)⟩, ⟨vq_cg ag nm eo0 (by omega), vq_cg ag nm eo1 (by omega)⟩, (ag.1 (j + 1) (by omega)).2.1⟩
  have ef : vf9 w pl sm s.1 k e (nxq w 16 N (k + 3)) i = vf9 w' pl' sm' s.1 k e (nxq w' 16 N (k + 3)) i := by
    unfold vf9
    rw [← wk, ← wi]
    by_cases w5 : w (k + 3) = 5
    · rw [if_pos w5, if_pos w5, if_pos w5]
      by_cases w9 : w i = 9
      · rw [if_pos w9, if_pos w9, (r2 w9 1 1).1]
      · rw [if_neg w9, if_neg w9]
    · obtain ⟨j, ⟨j1, j2⟩, j3, -, -⟩ := r01 w5
      rw [if_neg w5, if_neg w5, if_neg w5, j1, j2, (j3 1 0).1, (j3 1 0).2]
      by_cases w9 : w i = 9
      · rw [if_pos w9, if_pos w9, (r2 w9 1 0).1]
      · rw [if_neg w9, if_neg w9]
  have ew : vw9 w pl nq sm s.1 k e (nxq w 16 N (k + 3)) i = vw9 w' pl' nq' sm' s.1 k e (nxq w' 16 N (k + 3)) i := by
    unfold vw9
    simp only []
    rw [← wk, ← wi]
    by_cases w5 : w (k + 3) = 5
    · rw [if_pos w5, if_pos w5, if_pos w5, if_pos w5]
      by_cases w9 : w i = 9
      · rw [if_pos w9, if_pos w9, (r2 w9 0 0).2.1, (r2 w9 0 0).2.2]
      · rw [if_neg w9, if_neg w9]
    · obtain ⟨j, ⟨j1, j2⟩, -, ⟨j3, j4⟩, j5⟩ := r01 w5
      rw [if_neg w5, if_neg w5, if_neg w5, if_neg w5, j1, j2, j3, j4, j5, (ag.1 (k + 3) (by omega)).2.1]
      by_cases w9 : w i = 9
      · rw [if_pos w9, if_pos w9, (r2 w9 0 0).2.1, (r2 w9 0 0).2.2]
      · rw [if_neg w9, if_neg w9]
  rw [e1 w pl nq sm ini.1, e1 w' pl' nq' sm' ini.2, ef, ew, ← wk, fnd_cg (k := k + 1) ag nm (by omega) h1, (ag.1 k (by omega)).2.1, (ag.1 (k + 1) (by omega)).2.1]
theorem itc_cg (ag : AgW w w' pl pl' nq nq' sm sm' N) (nm : NmW w N s.1) (he : e < N) (eo : Eo w 6 (k + 1) j) (w17 : w j = 17) {f0 : Nat} (br : Br w f0 (j + 1) e) : itc w pl sm N 60 k e s = itc w' pl' sm' N 60 k e s := by
  have lt := eo.pr.1
  have je := br.sg.1
  obtain ⟨n1, n2⟩ := ag.nx (x := 17) (f := N) (k := k + 1) (e := j) (by omega) (by omega) (by omega) w17 (fun t t1 t2 => eo.no9 (Or.inr (Or.inr rfl)) t1 t2)
  have b := brf_cg ag nm he f0 (j + 1) br (by omega)
  unfold itc
  simp only [n1, n2]
  rw [rf_cg ag nm eo (by omega), b, (ag.1 k (by omega)).2.1]
theorem ite_nm (nm : NmW w N s.1) (hk : k + 1 < N) (h1 : w k = 3 ∨ w k = 6 ∨ w k = 4 → w (k + 1) = 1) : NmW w N (ite9 w pl nq sm N 60 k s).1 := by
  have add : ∀ x, (w k = 3 ∨ w k = 6 ∨ w k = 4) → NmW w N (s.1 ++ [(k + 1, x)]) := fun x h e he => by
    rcases List.mem_append.mp he with u | u
    · exact nm e u
    · rw [List.mem_singleton.mp u]
      exact ⟨hk, h1 h⟩
  unfold ite9
  simp only []
  by_cases c1 : w k = 3 ∨ w k = 6
  · rw [if_pos c1]
    unfold itr
    simp only []
    repeat' split
    all_goals first | exact nm | exact add _ (by omega)
  · rw [if_neg c1]
    by_cases c2 : w k = 4
    · rw [if_pos c2]
      unfold itv
      simp only []
      repeat' split
      all_goals first | exact nm | exact add _ (by omega)
    · rw [if_neg c2]
      by_cases c3 : w k = 11
      · rw [if_pos c3]
        unfold itt
        simp only []
        repeat' split
        all_goals exact nm
      · rw [if_neg c3]
        unfold itc
        simp only []
        repeat' split
        all_goals exact nm
theorem its_cg (ag : AgW w w' pl pl' nq nq' sm sm' N) : ∀ (f f' k : Nat) (s : st9), N ≤ k + f' → Ac w N f [50] k → NmW w N s.1 → its9 w pl nq sm N 60 f' k s = its9 w' pl' nq' sm' N 60 f' k s := by
  intro f
  induction f using Nat.strongRecOn with
  | ind f ih =>
    intro f' k s hf' hac nm
    cases f' with
    | zero => rfl
    | succ f' =>
      rw [its9, its9]
      by_cases f0 : s.2.2.1 = 0
      · rw [if_neg (show ¬ s.2.2.1 ≠ 0 from fun u => u f0), if_neg (show ¬ s.2.2.1 ≠ 0 from fun u => u f0)]
        rcases ac_item hac with ⟨c0, c1⟩ | ⟨c0, e, g, hg, hit, hac'⟩
        · rw [if_pos c0, if_pos (show w' k = 0 by rw [← (ag.1 k (by omega)).1]; exact c0), (ag.1 k (by omega)).2.1]
        · have eN := ac_le hac'
          have sg := hit.sg
          have kN : k < N := by
            have := hit.2.1
            omega
          obtain ⟨n1, n2⟩ := ag.nx (x := 34) (f := N) (k := k) (e := e) sg.1 (by omega) (by omega) hit.1 sg.2.2.2
          have wk := (ag.1 k kN).1
          rw [if_neg c0, if_neg (by rw [← wk]; exact c0), n1, n2]
          have es : ite9 w pl nq sm N 60 k s = ite9 w' pl' nq' sm' N 60 k s := by
            unfold ite9
            simp only [n1, n2]
            rw [← wk]
            rcases hit.2.2 with ⟨h0, h1, h2, eo⟩ | ⟨h0, h1, h2, i, vs, hi⟩ | ⟨h0, j, f1, eo, w17, br⟩ | ⟨h0, eo⟩
            · rw [if_pos h0, if_pos h0, itr_cg ag nm (by omega) h1 eo]
            · rw [if_neg (show ¬ (w k = 3 ∨ w k = 6) by first | rfl | omega), if_neg (show ¬ (w k = 3 ∨ w k = 6) by first | rfl | omega), if_pos h0, if_pos h0, itv_cg ag nm (by omega) h1 vs hi]
            · rw [if_neg (show ¬ (w k = 3 ∨ w k = 6) by first | rfl | omega), if_neg (show ¬ (w k = 3 ∨ w k = 6) by first | rfl | omega), if_neg (show ¬ (w k = 4) by first | rfl | omega), if_neg (show ¬ (w k = 4) by first | rfl | omega), if_neg (show ¬ (w k = 11) by first | rfl | omega), if_neg (show ¬ (w k = 11) by first | rfl | omega), itc_cg ag nm (by omega) eo w17 br]
            · rw [if_neg (show ¬ (w k = 3 ∨ w k = 6) by first | rfl | omega), if_neg (show ¬ (w k = 3 ∨ w k = 6) by first | rfl | omega), if_neg (show ¬ (w k = 4) by first | rfl | omega), if_neg (show ¬ (w k = 4) by first | rfl | omega), if_pos h0, if_pos h0, itt_cg ag nm (by omega) eo]
          have nm' : NmW w N (ite9 w pl nq sm N 60 k s).1 := ite_nm nm (by have := hit.2.1; omega) (fun u => by
            rcases hit.2.2 with ⟨h0, h1, -⟩ | ⟨h0, h1, -⟩ | ⟨h0, -⟩ | ⟨h0, -⟩
            · exact h1
            · exact h1
            · omega
            · omega)
          rw [← es]
          exact ih g hg f' (e + 1) _ (by have := hit.2.1; omega) hac' nm'
      · rw [if_pos f0, if_pos f0]
end CGC
end
section
/-! The words of a text, pure, and the class's words. -/
theorem ite_P9 {P : Int → Prop} {c : Prop} {_ : Decidable c} {a b : Int} (ha : P a) (hb : P b) : P (if c then a else b) := by
  split
  · exact ha
  · exact hb
theorem kwq_r (l : List Int) : 1 ≤ kwq l ∧ kwq l ≤ 15 ∧ kwq l ≠ 2 := by
  unfold kwq
  repeat' (first | decide | refine ite_P9 (P := fun v : Int => 1 ≤ v ∧ v ≤ 15 ∧ v ≠ 2) ?_ ?_)
theorem sgk_r (x y : Int) : 16 ≤ sgk x y ∧ sgk x y ≤ 39 := by
  unfold sgk
  repeat' (first | decide | refine ite_P9 (P := fun v : Int => 16 ≤ v ∧ v ≤ 39) ?_ ?_)
section CWD
variable {c : Nat → Int} {N n p w T A B D C : Nat} {M : mM}
theorem wkq_L (h : isL (c p)) : wkq (kwx c) c N p = if 40 < weq c N p - p then 39 else kwx c p (weq c N p) := by
  unfold wkq
  rw [if_pos h]
theorem wkq_D (h : ¬ isL (c p)) (h2 : isDq (c p)) : wkq (kwx c) c N p = if 9 < weq c N p - p then 39 else 2 := by
  unfold wkq
  rw [if_neg h, if_pos h2]
theorem wkq_S (h : ¬ isL (c p)) (h2 : ¬ isDq (c p)) : wkq (kwx c) c N p = sgk (c p) (lq c N (p + 1)) := by
  unfold wkq
  rw [if_neg h, if_neg h2]
theorem wk_1 (h : wkq (kwx c) c N p = 1) : isL (c p) := Classical.byContradiction (fun hL => by
  by_cases hD : isDq (c p)
  · rw [wkq_D hL hD] at h
    split at h <;> exact absurd h (by first | decide | simp)
  · rw [wkq_S hL hD] at h
    have := sgk_r (c p) (lq c N (p + 1))
    omega)
theorem wk_2 (h : wkq (kwx c) c N p = 2) : isDq (c p) := Classical.byContradiction (fun hD => by
  by_cases hL : isL (c p)
  · rw [wkq_L hL] at h
    split at h
    · exact absurd h (by first | decide | simp)
    · exact (kwq_r _).2.2 h
  · rw [wkq_S hL hD] at h
    have := sgk_r (c p) (lq c N (p + 1))
    omega)
theorem wk_b : 0 ≤ wkq (kwx c) c N p ∧ wkq (kwx c) c N p ≤ 39 := by
  by_cases hL : isL (c p)
  · rw [wkq_L hL]
    split
    · decide
    · have := kwq_r (wlq c p (weq c N p))
      show 0 ≤ kwq (wlq c p (weq c N p)) ∧ kwq (wlq c p (weq c N p)) ≤ 39
      omega
  · by_cases hD : isDq (c p)
    · rw [wkq_D hL hD]
      split <;> decide
    · rw [wkq_S hL hD]
      have := sgk_r (c p) (lq c N (p + 1))
      omega
/-- places, numbers, and which words are spelt alike -/
noncomputable def pl0 (c : Nat → Int) (N n j : Nat) : Int := if j < n then (pwq c N j : Int) else N
noncomputable def nq0 (c : Nat → Int) (N j : Nat) : Int := numq c (pwq c N j) (weq c N (pwq c N j) - pwq c N j)
def sm0 (c : Nat → Int) (N x v : Nat) : Prop := (weq c N (pwq c N x) : Int) - pwq c N x = (weq c N (pwq c N v) : Int) - pwq c N v ∧ ∀ i : Nat, (i : Int) < (weq c N (pwq c N v) : Int) - pwq c N v → c (pwq c N x + i) = c (pwq c N v + i)
theorem cwq_l {j : Nat} (h : j < n) : cwq kwx c N n j = wkq (kwx c) c N (pwq c N j) := if_pos h
/-! The words hang on the text's N characters alone. -/
section WCG
variable {c' : Nat → Int} {i f : Nat} {b : Bool}
theorem skq_cg : ∀ (f : Nat) (b : Bool) (i : Nat), (∀ j, i ≤ j → j < i + f → c j = c' j) → skq c f b i = skq c' f b i
  | 0, _, _, _ => rfl
  | f + 1, b, i, h => by
    have e := h i (Nat.le_refl _) (by omega)
    have r1 := skq_cg f true (i + 1) (fun j a b => h j (by omega) (by omega))
    have r2 := skq_cg f false (i + 1) (fun j a b => h j (by omega) (by omega))
    by_cases h1 : c i = 35 ∨ (b = true ∧ c i ≠ 10)
    · rw [skq_rem h1, skq_rem (by rw [← e]; exact h1), r1]
    · by_cases h2 : blq (c i)
      · rw [skq_bl h1 h2, skq_bl (by rw [← e]; exact h1) (by rw [← e]; exact h2), r2]
      · rw [skq_end h1 h2, skq_end (by rw [← e]; exact h1) (by rw [← e]; exact h2)]
theorem enq_cg {P : Int → Prop} : ∀ (f i : Nat), (∀ j, i ≤ j → j < i + f → c j = c' j) → enq P c f i = enq P c' f i
  | 0, _, _ => rfl
  | f + 1, i, h => by
    have e := h i (Nat.le_refl _) (by omega)
    by_cases h1 : P (c i)
    · rw [enq_y h1, enq_y (by rw [← e]; exact h1), enq_cg f (i + 1) (fun j a b => h j (by omega) (by omega))]
    · rw [enq_n h1, enq_n (by rw [← e]; exact h1)]
theorem weq_cg (h : ∀ j, j < N → c j = c' j) (hp : p < N) : weq c N p = weq c' N p := by
  have l : lq c N (p + 1) = lq c' N (p + 1) := by
    unfold lq
    by_cases y : p + 1 < N
    · rw [if_pos y, if_pos y, h _ y]
    · rw [if_neg y, if_neg y]
  unfold weq
  rw [h p hp, l, enq_cg (N - p) p (fun j _ b => h j (by omega)), enq_cg (N - p) p (fun j _ b => h j (by omega))]
theorem wlq_cg (h : ∀ j, j < N → c j = c' j) {e : Nat} (he : e ≤ N) : wlq c p e = wlq c' p e := by
  unfold wlq
  refine List.map_congr_left (fun j hj => ?_)
  have := List.mem_range.mp hj
  exact h _ (by omega)
theorem wkq_cg (h : ∀ j, j < N → c j = c' j) (hp : p < N) : wkq (kwx c) c N p = wkq (kwx c') c' N p := by
  have l : lq c N (p + 1) = lq c' N (p + 1) := by
    unfold lq
    by_cases y : p + 1 < N
    · rw [if_pos y, if_pos y, h _ y]
    · rw [if_neg y, if_neg y]
  have e := weq_cg h hp
  have b := (weq_b (c := c) hp).2
  unfold wkq kwx
  rw [h p hp, l, ← e, wlq_cg h b]
theorem pwq_cg (h : ∀ j, j < N → c j = c' j) : ∀ j, (∀ i, i < j → pwq c N i < N) → pwq c N j = pwq c' N j
  | 0, _ => by
    show skp c N 0 = skp c' N 0
    exact skq_cg _ _ _ (fun j _ b => h j (by omega))
  | j + 1, hj => by
    have ih := pwq_cg h j (fun i hi => hj i (by omega))
    have lt := hj j (by omega)
    show skp c N (weq c N (pwq c N j)) = skp c' N (weq c' N (pwq c' N j))
    rw [← ih, ← weq_cg h lt]
    have b := (weq_b (c := c) lt).2
    exact skq_cg _ _ _ (fun j _ b => h j (by omega))
theorem numq_cg (h : ∀ j, j < N → c j = c' j) : ∀ l, p + l ≤ N → numq c p l = numq c' p l
  | 0, _ => rfl
  | l + 1, hl => by
    show 10 * numq c p l + (c (p + l) - 48) = 10 * numq c' p l + (c' (p + l) - 48)
    rw [numq_cg h l (by omega), h (p + l) (by omega)]
theorem spx_cg (h : ∀ j, j < N → c j = c' j) (s : spx kwx c N M A B D n) : spx kwx c' N M A B D n := by
  obtain ⟨s1, s2, s3⟩ := s
  have pj : ∀ j, j ≤ n → pwq c N j = pwq c' N j := fun j hj => pwq_cg h j (fun i hi => (s1 i (by omega)).1)
  have kj : ∀ j, j < n → wkq (kwx c) c N (pwq c N j) = wkq (kwx c') c' N (pwq c' N j) := fun j hj => by
    rw [← pj j (by omega)]
    exact wkq_cg h (s1 j hj).1
  refine ⟨fun i hi => ?_, fun i hi => by rw [← kj i (by omega)]; exact s2 i hi, ?_⟩
  · obtain ⟨lt, k1, k2, k3, k4⟩ := s1 i hi
    have wb := weq_b (c := c) lt
    have e := weq_cg h lt
    have k5 := kj i hi
    rw [pj i (by omega)] at lt k1 k2 k3 k4 wb e k5
    refine ⟨lt, ?_, k2, fun u => ?_, fun u v => ?_⟩
    · rw [k1, k5]
    · rw [← e]
      exact k3 (by rw [h _ lt]; exact u)
    · rw [← e, ← numq_cg h _ (by omega)]
      exact k4 (by rw [h _ lt]; exact u) (by rw [k5]; exact v)
  · rcases s3 with ⟨a1, a2⟩ | ⟨a1, a2⟩
    · exact Or.inl ⟨by rw [← pj n (Nat.le_refl _)]; exact a1, fun i hi => by rw [← kj i hi]; exact a2 i hi⟩
    · exact Or.inr ⟨a1, by rw [← kj (n - 1) (by omega)]; exact a2⟩
end WCG
theorem wt_of (hT : ∀ j, j < N → mI M T j = c j) (h : spx kwx c N M A B D n) (wf : Wf M w T A B D N C n) : WTq M T A B D n (cwq kwx c N n) (pl0 c N n) (nq0 c N) (sm0 c N) := by
  obtain ⟨-, -, -, wd, hA, hB⟩ := wf
  refine ⟨fun j hj => ⟨?_, wd_sort h hA j hj, ?_⟩, fun v hv h2 => ?_, fun v x hv hx h1 h2 => ?_⟩
  · by_cases y : j < n
    · rw [cwq_l y]
      exact wk_b
    · unfold cwq
      rw [if_neg y]
      decide
  · unfold pl0
    by_cases y : j < n
    · rw [if_pos y]
      exact (h.1 j y).2.2.1
    · rw [if_neg y, show j = n by first | rfl | omega]
      exact hB
  · rw [cwq_l hv] at h2
    obtain ⟨-, k1, k2, k3, k4⟩ := h.1 v hv
    have s3 : mI M A v = 3 := by rw [k1, h2]; rfl
    obtain ⟨b1, b2⟩ := (wd v hv).2.2.2 s3
    have e : mI M D v = nq0 c N v := k4 (wk_2 h2) (by rw [h2]; decide)
    refine ⟨e, ?_⟩
    rw [← e]
    exact ⟨b1, b2⟩
  · rw [cwq_l hv] at h1
    rw [cwq_l hx] at h2
    obtain ⟨pv, -, v2, v3, -⟩ := h.1 v hv
    obtain ⟨px, -, x2, x3, -⟩ := h.1 x hx
    have bv := (weq_b (c := c) pv).2
    have bx := (weq_b (c := c) px).2
    unfold sm0 swq
    rw [v2, x2, v3 (wk_1 h1), x3 (wk_1 h2), Int.toNat_natCast, Int.toNat_natCast]
    refine ⟨fun u => ⟨u.1, fun i hi => ?_⟩, fun u => ⟨u.1, fun i hi => ?_⟩⟩
    · have u1 := u.1
      rw [hT _ (by omega), hT _ (by omega)]
      exact u.2 i hi
    · have u1 := u.1
      rw [← hT _ (by omega), ← hT _ (by omega)]
      exact u.2 i hi
end CWD
end
end
section
/-! The class's machine, exactly: meet, comeBack, the steps of vars and formulas. -/
section QAD
variable {G : mG} {d z m U Ab Be C Ab0 Be0 C0 t s c p O P K : Nat} {M0 M M' M1 M2 : mM} {S R : Nat → Prop}
theorem ab1z {m z A k j : Nat} (s : A = m + j ∨ z ≤ A) (hz : m + 10 ≤ z) (hk : k ≤ 9) (h : k ≠ j) : A ≠ m + k := by omega
theorem ab3z {m z A j : Nat} (s : A = m + j ∨ z ≤ A) (hz : m + 10 ≤ z) (hj : j = 3 ∨ j = 4) : ¬ (A = m ∨ A = m + 8 ∨ A = m + 9) := by omega
theorem ab4z {m z A j : Nat} (s : A = m + j ∨ z ≤ A) (hz : m + 10 ≤ z) (hj : j = 3 ∨ j = 4) : ¬ (A = m ∨ (m + 5 ≤ A ∧ A ≤ m + 7)) := by omega
theorem p8nz {m p : Nat} (h : p + 15 < m ∨ m + 9 < p) : ¬ (p + 8 = m ∨ p + 8 = m + 8 ∨ p + 8 = m + 9) := by omega
theorem x_Ma_meet {x : Nat} {pc : Int} (h : MS M0 z m U Ab0 Be0 C0 M t c) (hp : PK M z p O P K) (h0 : mR M m 0 = p) (hx : x < 60) (hc : c ≤ 60) (ht : t ≤ 16384) (ipc : i32 pc) (hv : mI M (m + 5) x = mI M m 9 → 1 ≤ mI M (m + 7) x ∧ mI M (m + 7) x < 1000000000) (hne : p + 15 < m ∨ m + 9 < p) : Ci G y_Ma_meet (d + 3) [vr m, vi x, vi pc] M (fun r M' => (r = pc ∧ mI M (m + 5) x = mI M m 9 ∧ MS M0 z m U Ab0 Be0 C0 M' (t + 1) c ∧ mtq m M M' ∧ plq M M' m t ∧ ptq M' m t (mI M (m + 6) x) (mI M (m + 7) x)) ∨ (r = mI M (p + 8) x ∧ mI M (m + 5) x ≠ mI M m 9 ∧ plq M M' m t ∧ (mI M' (m + 6) = mI M (m + 6) ∧ mI M' (m + 2) = mI M (m + 2)) ∧ MS M0 z m U Ab0 Be0 C0 M' t (c + 1) ∧ mI M' (m + 5) = mI M (m + 5) ∧ mI M' (m + 7) = mI M (m + 7) ∧ (∀ i, mI M' (m + 8) i = if i = c then (x : Int) else mI M (m + 8) i) ∧ (∀ i, mI M' (m + 9) i = if i = c then pc else mI M (m + 9) i))) := by
  obtain ⟨Ab, Be, C, ok, hk, hf, hab, hr, ⟨h8, htC, hb⟩, h15, hm⟩ := id h
  obtain ⟨k0, ⟨r3, r5, r6, r7, r10, r11, r12, r13, r14⟩, ⟨kU, k2, kA, kB, k5, k6, k7, k8, k9⟩, ⟨n2, nA, nB, n5, n6, n7, n8, n9⟩, hbs, ⟨sA, sB, sne, sz⟩, ⟨z0, zA, zB, zU⟩, ⟨c64, c32⟩⟩ := id hk
  obtain ⟨pk, -, -, -, -, -, ⟨⟨-, -, -, -, -, p10, -⟩, ⟨-, -, -, -, -, pk10, -⟩, ⟨-, -, -, -, -, pn10, -⟩⟩⟩ := id hp
  refine k_Ma_meet ok (i32s (by omega) (by omega)) ipc ?_
  rw [r10, n5, r11, n6, r12, n7, r13, n8, h15, Int.toNat_natCast, Int.toNat_natCast]
  refine ⟨k0, k5, by omega, fun e => ⟨k6, by omega, k7, by omega, (x_Ma_push h ht (ok _ _).1 (hv e)).mono (fun M' q => ⟨q.1.pile.1, Or.inl ⟨rfl, e, q.1, q.2.1, q.2.2.1, q.2.2.2⟩⟩)⟩, fun ue => ⟨k8, by omega, fun M15 e15 => ?_⟩⟩
  have f15 : FI (fun b => b = m + 8) M M15 := by rw [e15]; exact FI.ui rfl
  rw [f15.2.2.1, r14, f15.1, f15.2.1, f15.2.2.2.2.2.2 m (by omega), h15, n9, Int.toNat_natCast]
  refine ⟨k9, by omega, fun M19 e19 => ?_⟩
  have f19 : FI (fun b => b = m + 9) M15 M19 := by rw [e19]; exact FI.ui rfl
  rw [f19.2.2.2.2.2.2 m (by omega), f15.2.2.2.2.2.2 m (by omega), h15]
  refine ⟨⟨by omega, by omega⟩, fun M22 e22 => ?_⟩
  have f22 : FI (fun b => b = m) M19 M22 := by rw [e22]; exact FI.ui rfl
  have ff : FI (fun b => b = m ∨ b = m + 8 ∨ b = m + 9) M M22 := ((f15.mono (fun _ q => Or.inr (Or.inl q))).trans (f19.mono (fun _ q => Or.inr (Or.inr q)))).trans (f22.mono (fun _ q => Or.inl q))
  have i22 : ∀ i, mI M22 m i = if i = 15 then (c : Int) + 1 else mI M m i := fun i => by
    rw [mI_ui m i e22]
    by_cases y : i = 15
    · rw [if_pos ⟨rfl, y⟩, if_pos y]
    · rw [if_neg (fun q => y q.2), if_neg y, f19.2.2.2.2.2.2 m (by omega), f15.2.2.2.2.2.2 m (by omega)]
  have o22 : mOk M22 := by rw [e22]; exact mOk_UI (by rw [e19]; exact mOk_UI (by rw [e15]; exact mOk_UI ok (i32s (by omega) (by omega))) ipc) ⟨by omega, by omega⟩
  rw [ff.1, ff.2.1, ff.2.2.1, h0, p10, pn10, ff.2.2.2.2.2.2 (p + 8) (p8nz hne)]
  refine ⟨pk, pk10, by omega, Or.inr ⟨rfl, ue, fun j hj => by rw [ff.2.2.1, r6, r7, ff.2.2.2.2.2.2 Ab (ab3z sA sz (Or.inl rfl)), ff.2.2.2.2.2.2 Be (ab3z sB sz (Or.inr rfl))]; exact ⟨rfl, rfl⟩, ⟨ff.2.2.2.2.2.2 _ (by omega), ff.2.2.2.2.2.2 _ (by omega)⟩, ms_step (t' := t) (c' := c + 1) o22 hk hf hab hr hm (ff.mono (fun b q => by
      rcases q with q | q | q
      · exact Or.inl q
      · exact Or.inr (Or.inr (Or.inl (by omega)))
      · exact Or.inr (Or.inr (Or.inl (by omega))))) (by rw [i22, if_neg (by decide)]) (by rw [i22, if_neg (by decide)]) (by rw [i22, if_neg (by decide)]; exact h8) htC (fun j hj => by rw [ff.2.2.2.2.2.2 Be (ab3z sB sz (Or.inr rfl))]; exact hb j hj) (by rw [i22, if_pos rfl]; omega), ff.2.2.2.2.2.2 _ (by omega), ff.2.2.2.2.2.2 _ (by omega), fun i => ?_, fun i => ?_⟩⟩
  · rw [f22.2.2.2.2.2.2 _ (by omega), f19.2.2.2.2.2.2 _ (by omega), mI_ui _ i e15]
    by_cases y : i = c
    · rw [if_pos ⟨rfl, y⟩, if_pos y]
    · rw [if_neg (fun q => y q.2), if_neg y]
  · rw [f22.2.2.2.2.2.2 _ (by omega), mI_ui _ i e19]
    by_cases y : i = c
    · rw [if_pos ⟨rfl, y⟩, if_pos y]
    · rw [if_neg (fun q => y q.2), if_neg y, f15.2.2.2.2.2.2 _ (by omega)]
theorem x_Ma_comeBack {x : Nat} (h : MS M0 z m U Ab0 Be0 C0 M (t + 1) (c + 1)) (hx : mI M (m + 8) c = x) (hx6 : x < 60) (hc : c ≤ 60) : Ci G y_Ma_comeBack d [vr m] M (fun r M' => r = mI M (m + 9) c ∧ MS M0 z m U Ab0 Be0 C0 M' (t + 1) c ∧ mI M' (m + 8) = mI M (m + 8) ∧ mI M' (m + 9) = mI M (m + 9) ∧ (∀ i, mI M' (m + 5) i = if i = x then mI M m 9 else mI M (m + 5) i) ∧ (∀ i, i ≠ x → mI M' (m + 7) i = mI M (m + 7) i) ∧ (mI M' (m + 6) x = mI M (mR M m 6) t ∧ mI M' (m + 7) x = mI M (mR M m 7) t) ∧ (∀ i, i ≠ x → mI M' (m + 6) i = mI M (m + 6) i) ∧ plq M M' m (t + 1) ∧ mI M' (m + 2) = mI M (m + 2) ∧ 1 ≤ mI M' (m + 7) x ∧ mI M' (m + 7) x < 1000000000) := by
  obtain ⟨Ab, Be, C, ok, hk, hf, hab, hr, ⟨h8, htC, hb⟩, h15, hm⟩ := id h
  obtain ⟨k0, ⟨r3, r5, r6, r7, r10, r11, r12, r13, r14⟩, ⟨kU, k2, kA, kB, k5, k6, k7, k8, k9⟩, ⟨n2, nA, nB, n5, n6, n7, n8, n9⟩, hbs, ⟨sA, sB, sne, sz⟩, ⟨z0, zA, zB, zU⟩, ⟨c64, c32⟩⟩ := id hk
  refine k_Ma_comeBack ok ⟨k0, ⟨by omega, by omega⟩, fun M3 e3 => ?_⟩
  have f3 : FI (fun b => b = m) M M3 := by rw [e3]; exact FI.ui rfl
  have i3 : mI M3 m 15 = c := by rw [mI_ui m 15 e3, if_pos ⟨rfl, rfl⟩]; omega
  have g3 : ∀ i, i ≠ 15 → mI M3 m i = mI M m i := fun i hi => by rw [mI_ui m i e3, if_neg (fun q => hi q.2)]
  rw [f3.2.2.1, r13, r10, f3.1, f3.2.1, n8, n5, i3, Int.toNat_natCast, f3.2.2.2.2.2.2 (m + 8) (by omega), hx, Int.toNat_natCast, g3 9 (by decide)]
  refine ⟨k8, by omega, k5, by omega, fun M9 e9 => ?_⟩
  have f9 : FI (fun b => b = m + 5) M3 M9 := by rw [e9]; exact FI.ui rfl
  have g9 : mI M9 m = mI M3 m := f9.2.2.2.2.2.2 m (by omega)
  have q1 : Int.toNat (mI M m 8 - 1) = t := by omega
  rw [f9.2.2.1, f9.1, f9.2.1, f3.2.2.1, f3.1, f3.2.1, r6, r11, nA, n6, g9, g3 8 (by decide), q1]
  refine ⟨kA, by omega, k6, by omega, fun M15 e15 => ?_⟩
  have f15 : FI (fun b => b = m + 6) M9 M15 := by rw [e15]; exact FI.ui rfl
  have g15 : mI M15 m = mI M3 m := by rw [f15.2.2.2.2.2.2 m (by omega), g9]
  rw [f15.2.2.1, f15.1, f15.2.1, f9.2.2.1, f9.1, f9.2.1, f3.2.2.1, f3.1, f3.2.1, r7, r12, nB, n7, g15, g3 8 (by decide), q1]
  have eB : mI M15 Be t = mI M Be t := by rw [f15.2.2.2.2.2.2 Be (ab1z sB sz (by decide) (by decide)), f9.2.2.2.2.2.2 Be (ab1z sB sz (by decide) (by decide)), f3.2.2.2.2.2.2 Be (ab1z (k := 0) sB sz (by decide) (by decide))]
  refine ⟨kB, by omega, k7, by omega, fun M21 e21 => ?_⟩
  have f21 : FI (fun b => b = m + 7) M15 M21 := by rw [e21]; exact FI.ui rfl
  have g21 : mI M21 m = mI M3 m := by rw [f21.2.2.2.2.2.2 m (by omega), g15]
  have ff : FI (fun b => b = m ∨ (m + 5 ≤ b ∧ b ≤ m + 7)) M M21 := (((f3.mono (fun _ q => Or.inl q)).trans (f9.mono (fun _ q => Or.inr (by omega)))).trans (f15.mono (fun _ q => Or.inr (by omega)))).trans (f21.mono (fun _ q => Or.inr (by omega)))
  have o21 : mOk M21 := by rw [e21]; exact mOk_UI (by rw [e15]; exact mOk_UI (by rw [e9]; exact mOk_UI (by rw [e3]; exact mOk_UI ok ⟨by omega, by omega⟩) (ok _ _).1) ((by rw [e9]; exact mOk_UI (by rw [e3]; exact mOk_UI ok ⟨by omega, by omega⟩) (ok _ _).1 : mOk M9) _ _).1) ((by rw [e15]; exact mOk_UI (by rw [e9]; exact mOk_UI (by rw [e3]; exact mOk_UI ok ⟨by omega, by omega⟩) (ok _ _).1) ((by rw [e9]; exact mOk_UI (by rw [e3]; exact mOk_UI ok ⟨by omega, by omega⟩) (ok _ _).1 : mOk M9) _ _).1 : mOk M15) _ _).1
  rw [ff.2.2.1, ff.1, ff.2.1, r14, n9, g21, i3, Int.toNat_natCast, ff.2.2.2.2.2.2 (m + 9) (by omega)]
  refine ⟨k9, by omega, rfl, ms_step (t' := t + 1) (c' := c) o21 hk hf hab hr hm (ff.mono (fun b q => by
      rcases q with q | q
      · exact Or.inl q
      · exact Or.inr (Or.inr (Or.inl (by omega))))) (by rw [g21, g3 4 (by decide)]) (by rw [g21, g3 9 (by decide)]) (by rw [g21, g3 8 (by decide)]; exact h8) htC (fun j hj => by rw [ff.2.2.2.2.2.2 Be (ab4z sB sz (Or.inr rfl))]; exact hb j hj) (by rw [g21]; exact i3), ff.2.2.2.2.2.2 _ (by omega), rfl, fun i => ?_, fun i hi => ?_, ⟨?_, ?_⟩, fun i hi => ?_, fun j hj => ?_, ff.2.2.2.2.2.2 _ (by omega), ?_⟩
  · rw [f21.2.2.2.2.2.2 _ (by omega), f15.2.2.2.2.2.2 _ (by omega), mI_ui _ i e9]
    by_cases y : i = x
    · rw [if_pos ⟨rfl, y⟩, if_pos y]
    · rw [if_neg (fun q => y q.2), if_neg y, f3.2.2.2.2.2.2 _ (by omega)]
  · rw [mI_ui _ i e21, if_neg (fun q => hi q.2), f15.2.2.2.2.2.2 _ (by omega), f9.2.2.2.2.2.2 _ (by omega), f3.2.2.2.2.2.2 _ (by omega)]
  · rw [f21.2.2.2.2.2.2 _ (by omega), mI_ui _ x e15, if_pos ⟨rfl, rfl⟩, f9.2.2.2.2.2.2 Ab (ab1z sA sz (by decide) (by decide)), f3.2.2.2.2.2.2 Ab (ab1z (k := 0) sA sz (by decide) (by decide))]
  · rw [mI_ui _ x e21, if_pos ⟨rfl, rfl⟩, eB]
  · rw [f21.2.2.2.2.2.2 _ (by omega), mI_ui _ i e15, if_neg (fun q => hi q.2), f9.2.2.2.2.2.2 _ (by omega), f3.2.2.2.2.2.2 _ (by omega)]
  · rw [ff.2.2.1, r6, r7, ff.2.2.2.2.2.2 Ab (ab4z sA sz (Or.inl rfl)), ff.2.2.2.2.2.2 Be (ab4z sB sz (Or.inr rfl))]
    exact ⟨rfl, rfl⟩
  · rw [mI_ui _ x e21, if_pos ⟨rfl, rfl⟩, eB]
    exact hb t (by omega)
end QAD
section QAE
variable {G : mG} {d z m U Ab0 Be0 C0 t c p O P K L i pc tt : Nat} {M0 M : mM} {Q : Int → mM → Prop} {a b : Int}
theorem run_var {x : Nat} (hE : Rnv M0 z m Ab0 Be0 p O P K L) (hpc : pc < L) (hi : i < 1000000) (hM : MS M0 z m U Ab0 Be0 C0 M t c) (ht : t ≤ 16384) (o : mI M0 O pc = 5) (ox : mI M0 P pc = x) (hx : x < 12) (hU : ¬ mcS m Ab0 Be0 U ∧ U < mZ M0) (next : ∀ M', MS M0 z m U Ab0 Be0 C0 M' (t + 1) c → mtq m M M' → plq M M' m t → ptq M' m t (mI M0 U ((mI M0 m 4).toNat + x)) 1 → h_Ma_run_14 G (d + 3) m ((pc + 1 : Nat) : Int) ((i + 1 : Nat) : Int) M' Q) : h_Ma_run_14 G (d + 3) m (pc : Int) (i : Int) M Q := by
  obtain ⟨hp, hm0, ha, hL, hLK, hLn⟩ := hE
  obtain ⟨ok, k0, h8, kA, kB, tA, tB, bA, bB, hb, ⟨mA, mB⟩, ne⟩ := hM.pile
  obtain ⟨hp1, hr0, iO, iP, iT⟩ := hM.prog hp hm0 ha
  obtain ⟨pk, ⟨pr0, pr1⟩, ⟨kO, kP, nO, nP⟩, -, -, -, ⟨⟨-, -, -, p8, p9, -⟩, ⟨-, -, -, pk8, pk9, -⟩, ⟨-, -, -, pn8, pn9, -⟩⟩⟩ := id hp1
  have l2 : mI M p 2 = L := by rw [show p = p + 0 by first | rfl | omega, iT 0 (by omega)]; exact hL
  have no : ¬ ((1000000 : Int) ≤ (i : Int) ∨ ((pc : Int) < 0 ∨ mI M (mR M m 0) 2 ≤ (pc : Int))) := by rw [hr0, l2]; omega
  refine k_Ma_run_14 ok (i32s (by omega) (by omega)) ⟨by omega, by omega⟩ ⟨fun _ _ => ⟨k0, by rw [hr0]; exact pk⟩, fun y => absurd y no, fun _ => ?_⟩
  rw [hr0, pr0, pr1, p8, p9, pn8, pn9, nO, nP, iO, iP, Int.toNat_natCast, show ((i : Int) + 1) = ((i + 1 : Nat) : Int) by first | rfl | omega, show ((pc : Int) + 1) = ((pc + 1 : Nat) : Int) by first | rfl | omega]
  obtain ⟨_, _, _, -, hk, hf, -, -, -, -, hm⟩ := id hM
  have r3 := hk.2.1.1
  have kU := hk.2.2.1.1
  have bs0 := hk.2.2.2.2.1
  have eU : mI M U = mI M0 U := (hf.2 U hU.2).2.2.2.2 hU.1
  have i0 : i32 (mI M0 U ((mI M0 m 4).toNat + x)) := by rw [← eU]; exact (ok _ _).1
  rw [hm.2.1] at bs0
  rw [ox, r3, eU, hm.2.1, show Int.toNat (mI M0 m 4 + (x : Int)) = (mI M0 m 4).toNat + x by first | rfl | omega]
  refine ⟨k0, pk, kO, by omega, kP, by omega, fun o0 => absurd o0 (by rw [o]; decide), fun _ => ⟨fun o3 => absurd o3 (by rw [o]; decide), fun _ => ⟨fun o4 => absurd o4 (by rw [o]; decide), fun _ => ⟨fun _ => ⟨kU, by omega, (x_Ma_push hM ht i0 ⟨by omega, by omega⟩).mono (fun M' q => ⟨q.1.pile.1, next M' q.1 q.2.1 q.2.2.1 q.2.2.2⟩)⟩, fun o5 => absurd o o5⟩⟩⟩⟩
theorem run_frm {x : Nat} (hE : Rnv M0 z m Ab0 Be0 p O P K L) (hpc : pc < L) (hi : i < 1000000) (hM : MS M0 z m U Ab0 Be0 C0 M t c) (ht : t ≤ 16384) (o : mI M0 O pc = 7) (ox : mI M0 P pc = x) (hx : x < 60) (hc : c ≤ 60) (hv : mI M (m + 5) x = mI M m 9 → 1 ≤ mI M (m + 7) x ∧ mI M (m + 7) x < 1000000000) {sx : Nat} (hs : mI M0 (p + 8) x = sx) (hsL : sx ≤ 16384) (met : mI M (m + 5) x = mI M m 9 → ∀ M', MS M0 z m U Ab0 Be0 C0 M' (t + 1) c → mtq m M M' → plq M M' m t → ptq M' m t (mI M (m + 6) x) (mI M (m + 7) x) → h_Ma_run_14 G (d + 3) m ((pc + 1 : Nat) : Int) ((i + 1 : Nat) : Int) M' Q) (cll : mI M (m + 5) x ≠ mI M m 9 → ∀ M', MS M0 z m U Ab0 Be0 C0 M' t (c + 1) → mI M' (m + 5) = mI M (m + 5) → (mI M' (m + 6) = mI M (m + 6) ∧ mI M' (m + 2) = mI M (m + 2)) → mI M' (m + 7) = mI M (m + 7) → (∀ i, mI M' (m + 8) i = if i = c then (x : Int) else mI M (m + 8) i) → (∀ i, mI M' (m + 9) i = if i = c then ((pc + 1 : Nat) : Int) else mI M (m + 9) i) → plq M M' m t → h_Ma_run_14 G (d + 3) m ((sx : Nat) : Int) ((i + 1 : Nat) : Int) M' Q) : h_Ma_run_14 G (d + 3) m (pc : Int) (i : Int) M Q := by
  obtain ⟨hp, hm0, ha, hL, hLK, hLn⟩ := hE
  obtain ⟨ok, k0, h8, kA, kB, tA, tB, bA, bB, hb, ⟨mA, mB⟩, ne⟩ := hM.pile
  obtain ⟨hp1, hr0, iO, iP, iT⟩ := hM.prog hp hm0 ha
  obtain ⟨pk, ⟨pr0, pr1⟩, ⟨kO, kP, nO, nP⟩, -, -, -, ⟨⟨-, -, -, p8, p9, -⟩, ⟨-, -, -, pk8, pk9, -⟩, ⟨-, -, -, pn8, pn9, -⟩⟩⟩ := id hp1
  have l2 : mI M p 2 = L := by rw [show p = p + 0 by first | rfl | omega, iT 0 (by omega)]; exact hL
  have no : ¬ ((1000000 : Int) ≤ (i : Int) ∨ ((pc : Int) < 0 ∨ mI M (mR M m 0) 2 ≤ (pc : Int))) := by rw [hr0, l2]; omega
  refine k_Ma_run_14 ok (i32s (by omega) (by omega)) ⟨by omega, by omega⟩ ⟨fun _ _ => ⟨k0, by rw [hr0]; exact pk⟩, fun y => absurd y no, fun _ => ?_⟩
  rw [hr0, pr0, pr1, p8, p9, pn8, pn9, nO, nP, iO, iP, Int.toNat_natCast, show ((i : Int) + 1) = ((i + 1 : Nat) : Int) by first | rfl | omega, show ((pc : Int) + 1) = ((pc + 1 : Nat) : Int) by first | rfl | omega]
  rw [ox]
  refine ⟨k0, pk, kO, by omega, kP, by omega, fun o0 => absurd o0 (by rw [o]; decide), fun _ => ⟨fun o3 => absurd o3 (by rw [o]; decide), fun _ => ⟨fun o4 => absurd o4 (by rw [o]; decide), fun _ => ⟨fun o5 => absurd o5 (by rw [o]; decide), fun _ => ⟨fun _ => (x_Ma_meet (p := p) hM hp1 hr0 hx hc ht (i32s (by omega) (by omega)) hv ha.1).mono (fun r M' q => ?_), fun o7 => absurd o o7⟩⟩⟩⟩⟩
  rcases q with ⟨w1, w2, w3, w4, w5, w6⟩ | ⟨w1, w2, w3, w4, w5, w6, w7, w8, w9⟩
  · rw [w1]
    exact ⟨i32s (by omega) (by omega), w3.pile.1, met w2 M' w3 w4 w5 w6⟩
  · rw [iT 8 (by omega), hs] at w1
    rw [w1]
    exact ⟨i32s (by omega) (by omega), w5.pile.1, cll w2 M' w5 w6 w4 w7 w8 w9 w3⟩
theorem run_back {M : mM} {t i pc : Nat} {Q : Int → mM → Prop} (hE : Rnv M0 z m Ab0 Be0 p O P K L) (hpc : pc < L) (hi : i < 1000000) {x c bk : Nat} (hM : MS M0 z m U Ab0 Be0 C0 M (t + 1) (c + 1)) (o : mI M0 O pc = 0) (hx : mI M (m + 8) c = x) (hx6 : x < 60) (hc : c ≤ 60) (hbk : mI M (m + 9) c = bk) (hb16 : bk ≤ 16384) (next : ∀ M', MS M0 z m U Ab0 Be0 C0 M' (t + 1) c → mI M' (m + 8) = mI M (m + 8) → mI M' (m + 9) = mI M (m + 9) → (∀ i, mI M' (m + 5) i = if i = x then mI M m 9 else mI M (m + 5) i) → (∀ i, i ≠ x → mI M' (m + 7) i = mI M (m + 7) i) → (mI M' (m + 6) x = mI M (mR M m 6) t ∧ mI M' (m + 7) x = mI M (mR M m 7) t) → (∀ i, i ≠ x → mI M' (m + 6) i = mI M (m + 6) i) → plq M M' m (t + 1) → mI M' (m + 2) = mI M (m + 2) → (1 ≤ mI M' (m + 7) x ∧ mI M' (m + 7) x < 1000000000) → h_Ma_run_14 G (d + 3) m ((bk : Nat) : Int) ((i + 1 : Nat) : Int) M' Q) : h_Ma_run_14 G (d + 3) m (pc : Int) (i : Int) M Q := by
  obtain ⟨hp, hm0, ha, hL, hLK, hLn⟩ := hE
  obtain ⟨ok, k0, h8, -⟩ := hM.pile
  obtain ⟨hp1, hr0, iO, iP, iT⟩ := hM.prog hp hm0 ha
  obtain ⟨pk, ⟨pr0, pr1⟩, ⟨kO, kP, nO, nP⟩, -⟩ := id hp1
  have l2 : mI M p 2 = L := by rw [show p = p + 0 by first | rfl | omega, iT 0 (by omega)]; exact hL
  have no : ¬ ((1000000 : Int) ≤ (i : Int) ∨ ((pc : Int) < 0 ∨ mI M (mR M m 0) 2 ≤ (pc : Int))) := by rw [hr0, l2]; omega
  have h15 : mI M m 15 = ((c + 1 : Nat) : Int) := by
    obtain ⟨_, _, _, -, -, -, -, -, -, h15, -⟩ := id hM
    exact h15
  refine k_Ma_run_14 ok (i32s (by omega) (by omega)) ⟨by omega, by omega⟩ ⟨fun _ _ => ⟨k0, by rw [hr0]; exact pk⟩, fun y => absurd y no, fun _ => ?_⟩
  rw [hr0, pr0, pr1, nO, nP, iO, iP, Int.toNat_natCast, show ((i : Int) + 1) = ((i + 1 : Nat) : Int) by first | rfl | omega]
  refine ⟨k0, pk, kO, by omega, kP, by omega, fun _ => ⟨fun u => absurd u (by omega), fun _ => (x_Ma_comeBack hM hx hx6 hc).mono (fun r M' q => ?_)⟩, fun u => absurd o u⟩
  obtain ⟨w1, w2, w3, w4, w5, w6, w7, w8, w9, w10, w11⟩ := q
  rw [w1, hbk]
  exact ⟨i32s (by omega) (by omega), w2.pile.1, next M' w2 w3 w4 w5 w6 w7 w8 w9 w10 w11⟩
end QAE
end
section
section
/-! The class's machine, exactly: rules with vars and formulas. -/
section QAF
variable {G : mG} {d z m U Ab0 Be0 C0 cc p O P K L F0 H s0 : Nat} {M0 : mM} {w E pl : Nat → Int} {cv : Nat → vrs} {ec : Nat → Int × Int} {fv : Nat → vrs} {ns : Nat → Int} {sf ef : Nat → Nat} {X : Nat → Prop}
/-- met formulas hold their values -/
def MVp (m : Nat) (fv : Nat → vrs) (ns : Nat → Int) (F0 : Nat) (M : mM) : Prop := ∀ x, x < F0 → ns x = 7 → mI M (m + 5) x = mI M m 9 → fv x = (0, mI M (m + 6) x, mI M (m + 7) x)
/-- steps that are kept for formulas not yet met -/
def ptl (m : Nat) (ns : Nat → Int) (sf ef : Nat → Nat) (M : mM) : Nat → Nat
  | 0 => 0
  | x + 1 => ptl m ns sf ef M x + (if ns x = 7 ∧ mI M (m + 5) x ≠ mI M m 9 then ef x - sf x + 2 else 0)
theorem ptl_cg {M M' : mM} (h9 : mI M' m 9 = mI M m 9) : ∀ F : Nat, (∀ x, x < F → mI M' (m + 5) x = mI M (m + 5) x) → ptl m ns sf ef M' F = ptl m ns sf ef M F
  | 0, _ => rfl
  | F + 1, h => by
    rw [ptl.eq_2, ptl.eq_2 m ns sf ef M, ptl_cg h9 F (fun x hx => h x (by omega)), h F (by omega), h9]
theorem ptl_pos {M : mM} {x : Nat} (hx : ns x = 7) (hu : mI M (m + 5) x ≠ mI M m 9) : ∀ F : Nat, x < F → ptl m ns sf ef M x + (ef x - sf x + 2) ≤ ptl m ns sf ef M F
  | 0, h => absurd h (by omega)
  | F + 1, h => by
    rw [ptl.eq_2]
    by_cases y : x = F
    · rw [← y, if_pos ⟨hx, hu⟩]
      exact Nat.le_refl _
    · have a := ptl_pos hx hu F (by omega)
      omega
theorem ptl_two {M M' : mM} {x : Nat} (h9 : mI M' m 9 = mI M m 9) (hx : ns x = 7) (hu : mI M (m + 5) x ≠ mI M m 9) (hm : mI M' (m + 5) x = mI M' m 9) (hs : ∀ y, x < y → mI M' (m + 5) y = mI M (m + 5) y) : ∀ F : Nat, x < F → ptl m ns sf ef M' F + ptl m ns sf ef M x + (ef x - sf x + 2) = ptl m ns sf ef M F + ptl m ns sf ef M' x
  | 0, h => absurd h (by omega)
  | F + 1, h => by
    rw [ptl.eq_2, ptl.eq_2 m ns sf ef M]
    by_cases y : x = F
    · rw [← y, if_neg (fun u => u.2 hm), if_pos ⟨hx, hu⟩]
      omega
    · have a := ptl_two h9 hx hu hm hs F (by omega)
      rw [hs F (by omega), h9]
      omega
theorem ptl_le {M : mM} (h : ∀ x, x < F0 → ns x = 7 → ef x ≤ 16384) : ∀ F : Nat, F ≤ F0 → ptl m ns sf ef M F ≤ 16386 * F
  | 0, _ => Nat.zero_le _
  | F + 1, hF => by
    rw [ptl.eq_2]
    have a := ptl_le (M := M) h F (by omega)
    by_cases y : ns F = 7 ∧ mI M (m + 5) F ≠ mI M m 9
    · rw [if_pos y]
      have := h F (by omega) y.1
      omega
    · rw [if_neg y]
      omega
/-- open calls below cc, and stamps from H on, are as they were -/
def cbk (m cc H : Nat) (M M' : mM) : Prop := (∀ i, i < cc → mI M' (m + 8) i = mI M (m + 8) i ∧ mI M' (m + 9) i = mI M (m + 9) i) ∧ (∀ y, H ≤ y → mI M' (m + 5) y = mI M (m + 5) y) ∧ mI M' (m + 2) = mI M (m + 2)
theorem cbk.trans {M M1 M2 : mM} (h : cbk m cc H M M1) (k : cbk m cc H M1 M2) : cbk m cc H M M2 := ⟨fun i hi => ⟨(k.1 i hi).1.trans (h.1 i hi).1, (k.1 i hi).2.trans (h.1 i hi).2⟩, fun y hy => (k.2.1 y hy).trans (h.2.1 y hy), k.2.2.trans h.2.2⟩
theorem cbk.mtb {M M' : mM} (b : mtq m M M') : cbk m cc H M M' := ⟨fun i _ => ⟨by rw [b (m + 8) (by omega)], by rw [b (m + 9) (by omega)]⟩, fun y _ => by rw [b (m + 5) (by omega)], b (m + 2) (Or.inl rfl)⟩
/-- the machine under way, and what it has met -/
def MSv (M0 : mM) (z m U Ab0 Be0 C0 : Nat) (fv : Nat → vrs) (ns : Nat → Int) (F0 : Nat) (X : Nat → Prop) (M : mM) (t c : Nat) : Prop := MS M0 z m U Ab0 Be0 C0 M t c ∧ MVp m fv ns F0 M ∧ MT M m X
theorem MSv.of {M M' : mM} {t t' c : Nat} (h : MSv M0 z m U Ab0 Be0 C0 fv ns F0 X M t c) (k : MS M0 z m U Ab0 Be0 C0 M' t' c) (b : mtq m M M') : MSv M0 z m U Ab0 Be0 C0 fv ns F0 X M' t' c ∧ cbk m c H M M' ∧ ptl m ns sf ef M' H = ptl m ns sf ef M H := by
  have e9 : mI M' m 9 = mI M m 9 := by rw [k.nine, h.1.nine]
  refine ⟨⟨k, fun x hx h7 u => ?_, h.2.2.mtb b.mtb e9⟩, cbk.mtb b, ptl_cg e9 H (fun x _ => by rw [b (m + 5) (by omega)])⟩
  rw [b (m + 5) (by omega), e9] at u
  rw [b (m + 6) (by omega), b (m + 7) (by omega)]
  exact h.2.1 x hx h7 u
/-- how a rule's orders run: v its value, cc calls are open, formulas below H may be met, the rule's orders begin at s0 -/
def Rcv (G : mG) (d : Nat) (M0 : mM) (z m U Ab0 Be0 C0 : Nat) (fv : Nat → vrs) (ns : Nat → Int) (sf ef : Nat → Nat) (F0 : Nat) (X : Nat → Prop) (cc H s0 : Nat) (v : vrs) (s e : Nat) : Prop := ∀ (t i : Nat) (M : mM) (Q : Int → mM → Prop), t + (e - s) + s0 ≤ 16384 → i + (e - s) + ptl m ns sf ef M H ≤ 1000000 → MSv M0 z m U Ab0 Be0 C0 fv ns F0 X M t cc →
  (∀ (M' : mM) (i' : Nat), v.1 = 0 → i' + ptl m ns sf ef M' H ≤ i + (e - s) + ptl m ns sf ef M H → MSv M0 z m U Ab0 Be0 C0 fv ns F0 X M' (t + 1) cc → cbk m cc H M M' → plq M M' m t → ptq M' m t v.2.1 v.2.2 → h_Ma_run_14 G (d + 3) m (e : Int) (i' : Int) M' Q) →
  (∀ M' : mM, v.1 ≠ 0 → mI M' m 1 = v.1 → mI M' m 2 = v.2.1 → (∃ t2 c2, MS M0 z m U Ab0 Be0 C0 M' t2 c2) → (MVp m fv ns F0 M' ∧ MT M' m X) → Q 0 M') → h_Ma_run_14 G (d + 3) m (s : Int) (i : Int) M Q
/-- two values and an order -/
theorem rcv_two {v1 v2 : vrs} {k1 k2 : Int} {s a b : Nat} (hF : FMx G) (hE : Rnv M0 z m Ab0 Be0 p O P K L) (hsa : s < a) (hab : a < b) (hb : b + 1 ≤ L) (o : mI M0 O b = 15 ∨ mI M0 O b = 16 ∨ (19 ≤ mI M0 O b ∧ mI M0 O b ≤ 29)) (g1 : vgd k1 v1) (g2 : vgd k2 v2) (r1 : Rcv G d M0 z m U Ab0 Be0 C0 fv ns sf ef F0 X cc H s0 v1 s a) (r2 : Rcv G d M0 z m U Ab0 Be0 C0 fv ns sf ef F0 X cc H s0 v2 a b) : Rcv G d M0 z m U Ab0 Be0 C0 fv ns sf ef F0 X cc H s0 (vbd v1 (fun x1 y1 => vbd v2 (fun x2 y2 => v2q (mI M0 O b) x1 y1 x2 y2 (mI M0 P b)))) s (b + 1) := by
  intro t i M Q ht hi hM next flt
  refine r1 t i M Q (by omega) (by omega) hM (fun M1 i1 z1 l1 h1 b1 p1 t1 => ?_) (fun M1 z1 e1 e2 h1 b1 => ?_)
  · rw [vbd_0 z1] at next flt
    refine r2 (t + 1) i1 M1 Q (by omega) (by omega) h1 (fun M2 i2 z2 l2 h2 b2 p2 t2 => ?_) (fun M2 z2 e1 e2 h2 b2 => ?_)
    · rw [vbd_0 z2] at next flt
      obtain ⟨x1, x2, x3⟩ := g1.un z1
      obtain ⟨y1, y2, y3⟩ := g2.un z2
      refine run_cmp hE (by omega) (by omega) h2.1 (by omega) (fun io ix => x_Ma_compute2 (s := t) hF io ix o h2.1 (p2.pt (by omega) t1) t2 x1 y1 x3 y3) (fun z3 M3 h3 b3 p3 t3 => ?_) (fun z3 M3 e1 e2 h3 b3 => ?_)
      · obtain ⟨h3, b3, v3⟩ := h2.of (H := H) (sf := sf) (ef := ef) h3 b3
        exact next M3 (i2 + 1) z3 (by omega) h3 ((b1.trans b2).trans b3) ((p1.trans (p2.mono (by omega))).trans p3) t3
      · obtain ⟨t3, h3⟩ := h3
        obtain ⟨h4, -, -⟩ := h2.of (H := H) (sf := sf) (ef := ef) h3 b3
        exact flt M3 z3 e1 e2 ⟨t3, _, h3⟩ h4.2
    · rw [vbd_1 z2] at flt
      exact flt M2 z2 e1 e2 h2 b2
  · rw [vbd_1 z1] at flt
    exact flt M1 z1 e1 e2 h1 b1
theorem run_allv (hF : FMx G) (hE : Rnv M0 z m Ab0 Be0 p O P K L) (hlf : ∀ k, (w k = 1 ∨ w k = 2 ∨ w k = 12 ∨ w k = 13) → (w k = 1 → E k ≠ -1) → vgd (if w k = 12 ∨ w k = 13 ∨ (w k = 1 ∧ E k = 1) then 1 else 0) (cv k) ∧ ∀ s, s < L → mI M0 O s = (ec k).1 → mI M0 P s = (ec k).2 → Rcv G d M0 z m U Ab0 Be0 C0 fv ns sf ef F0 X cc H s0 (cv k) s (s + 1)) : ∀ (n c i j : Nat), 2 * (j - i) + c ≤ n → Eoc w c i j → (fl w E pl c i j).1 = 0 → (c = 1 → kdq w E 1 i j ≠ 1) → ∀ (x y x' : Int) (s e : Nat), (c = 1 → x = x' + 1 ∧ (x = 15 ∨ x = 16)) → Cd w ec pl (mI M0 O) (mI M0 P) c x y i j s e → e ≤ L → Rcv G d M0 z m U Ab0 Be0 C0 fv ns sf ef F0 X cc H s0 (vlq w cv pl c x' i j) s e := by
  have vok := vl_ok (w := w) (E := E) (pl := pl) (cv := cv) (fun k h1 h2 => (hlf k h1 h2).1)
  have n0 : ∀ {i j : Nat}, (0 : Nat) = 1 → kdq w E 1 i j ≠ 1 := fun u => absurd u (by decide)
  have m0 : ∀ {x x' : Int}, (0 : Nat) = 1 → x = x' + 1 ∧ (x = 15 ∨ x = 16) := fun u => absurd u (by decide)
  refine Eo_ind (P := fun c i j => (fl w E pl c i j).1 = 0 → (c = 1 → kdq w E 1 i j ≠ 1) → ∀ (x y x' : Int) (s e : Nat), (c = 1 → x = x' + 1 ∧ (x = 15 ∨ x = 16)) → Cd w ec pl (mI M0 O) (mI M0 P) c x y i j s e → e ≤ L → Rcv G d M0 z m U Ab0 Be0 C0 fv ns sf ef F0 X cc H s0 (vlq w cv pl c x' i j) s e) ?_ ?_ ?_ ?_ ?_ ?_ ?_ ?_
  · intro i m1 q j h1 h2 h3 h4 h5 h6 h7 h8 _ _ _ i1 i2 i3 hf _ x y x' s e _ hc he
    rw [fl_ask h1 h2 h3 h6 h8, fst9_1, fst9_1, fst9_1] at hf
    obtain ⟨⟨⟨f1, f2⟩, f3⟩, -⟩ := hf
    rw [Cd_ask h1 h2 h3 h6 h8] at hc
    obtain ⟨a, b, c1, o1, p1, c2, o2, p2, c3⟩ := hc
    have l1 := c1.lt
    have l2 := c2.lt
    have l3 := c3.lt
    rw [vl_ask h1 h2 h3 h6 h8]
    intro t k M Q ht hk hM next flt
    refine i1 f1 n0 0 0 0 s a m0 c1 (by omega) t k M Q (by omega) (by omega) hM (fun M1 k1 z1 l1 g1 b1 p1' t1 => ?_) (fun M1 z1 e1 e2 g1 b1 => ?_)
    · rw [vbd_0 z1] at next flt
      refine run_ask (tt := b + 1) hE (by omega) (by omega) g1.1 o1 (by rw [p1]; omega) t1 (fun az M2 g2 b2 p2' => ?_) (fun az M2 g2 b2 p2' => ?_)
      · obtain ⟨g2, b2, v2⟩ := g1.of (H := H) (sf := sf) (ef := ef) g2 b2
        rw [if_pos az] at next flt
        exact i3 f3 n0 0 0 0 (b + 1) e m0 c3 he t (k1 + 1) M2 Q (by omega) (by omega) g2 (fun M3 k3 z3 l3 g3 b3 p3 t3 => next M3 k3 z3 (by omega) g3 ((b1.trans b2).trans b3) ((p1'.trans p2').trans p3) t3) (fun M3 z3 e1 e2 g3 b3 => flt M3 z3 e1 e2 g3 b3)
      · obtain ⟨g2, b2, v2⟩ := g1.of (H := H) (sf := sf) (ef := ef) g2 b2
        rw [if_neg az] at next flt
        refine i2 f2 n0 0 0 0 (a + 1) b m0 c2 (by omega) t (k1 + 1) M2 Q (by omega) (by omega) g2 (fun M3 k3 z3 l3 g3 b3 p3 t3 => ?_) (fun M3 z3 e1 e2 g3 b3 => flt M3 z3 e1 e2 g3 b3)
        exact run_els (tt := e) hE (by omega) (by omega) g3.1 o2 p2 (next M3 (k3 + 1) z3 (by omega) g3 ((b1.trans b2).trans b3) ((p1'.trans p2').trans p3) t3)
    · rw [vbd_1 z1] at flt
      exact flt M1 z1 e1 e2 g1 b1
  · intro i m1 j h1 h2 h3 h4 eo1 eo2 i1 i2 hf _ x y x' s e _ hc he
    rw [fl_bin h1 h2 h3 (by omega), fst9_1, fst9_1] at hf
    obtain ⟨⟨f1, f2⟩, -⟩ := hf
    by_cases c29 : w m1 = 29 ∨ w m1 = 30
    · rw [Cd_jmp h1 h2 h3 c29] at hc
      obtain ⟨a, c1, o1, p1, c2⟩ := hc
      have l1 := c1.lt
      have l2 := c2.lt
      intro t k M Q ht hk hM next flt
      refine i1 f1 n0 0 0 0 s a m0 c1 (by omega) t k M Q (by omega) (by omega) hM (fun M1 k1 z1 l1 g1 b1 p1' t1 => ?_) (fun M1 z1 e1 e2 g1 b1 => ?_)
      · refine run_jmp (tt := e) hE (by omega) (by omega) g1.1 (by omega) p1 t1 (fun yy M2 g2 b2 p2' => ?_) (fun yy M2 g2 b2 p2' => ?_)
        · obtain ⟨g2, b2, v2⟩ := g1.of (H := H) (sf := sf) (ef := ef) g2 b2
          have ev : vlq w cv pl 0 x' i j = (0, (vlq w cv pl 0 0 i m1).2.1, (vlq w cv pl 0 0 i m1).2.2) := by
            rcases c29 with c | c
            · rw [vl_and h1 h2 h3 c, vbd_0 z1, if_pos (yy.mp (by omega))]
            · rw [vl_or h1 h2 h3 c, vbd_0 z1, if_neg (fun u => absurd (yy.mpr u) (by omega))]
          rw [ev] at next
          exact next M2 (k1 + 1) rfl (by omega) g2 (b1.trans b2) (p1'.trans (p2'.mono (by omega))) (p2'.pt (by omega) t1)
        · obtain ⟨g2, b2, v2⟩ := g1.of (H := H) (sf := sf) (ef := ef) g2 b2
          have ev : vlq w cv pl 0 x' i j = vlq w cv pl 0 0 (m1 + 1) j := by
            rcases c29 with c | c
            · rw [vl_and h1 h2 h3 c, vbd_0 z1, if_neg (fun u => yy ⟨fun _ => u, fun _ => by omega⟩)]
            · rw [vl_or h1 h2 h3 c, vbd_0 z1, if_pos (Classical.byContradiction (fun u => yy ⟨fun v => absurd v (by omega), fun v => absurd v u⟩))]
          rw [ev] at next flt
          exact i2 f2 n0 0 0 0 (a + 1) e m0 c2 he t (k1 + 1) M2 Q (by omega) (by omega) g2 (fun M3 k3 z3 l3 g3 b3 p3 t3 => next M3 k3 z3 (by omega) g3 ((b1.trans b2).trans b3) ((p1'.trans p2').trans p3) t3) (fun M3 z3 e1 e2 g3 b3 => flt M3 z3 e1 e2 g3 b3)
      · have ev : vlq w cv pl 0 x' i j = vlq w cv pl 0 0 i m1 := by
          rcases c29 with c | c
          · rw [vl_and h1 h2 h3 c, vbd_1 z1]
          · rw [vl_or h1 h2 h3 c, vbd_1 z1]
        rw [ev] at flt
        exact flt M1 z1 e1 e2 g1 b1
    · rw [Cd_bin h1 h2 h3 (by omega) (by omega) (by omega)] at hc
      obtain ⟨a, b, c1, c2, rfl, o1, p1⟩ := hc
      have l1 := c1.lt
      have l2 := c2.lt
      have g1 := vok _ 0 i m1 (Nat.le_refl _) (Or.inl ⟨rfl, eo1⟩) f1 n0 0
      have g2 := vok _ 0 (m1 + 1) j (Nat.le_refl _) (Or.inl ⟨rfl, eo2⟩) f2 n0 0
      have r := rcv_two hF hE l1 l2 he (by omega) g1 g2 (i1 f1 n0 0 0 0 s a m0 c1 (by omega)) (i2 f2 n0 0 0 0 a b m0 c2 (by omega))
      rw [vl_bin h1 h2 h3 (by omega) (by omega) (by omega)]
      have ev : ∀ x1 y1 x2 y2 : Int, v2q (mI M0 O b) x1 y1 x2 y2 (mI M0 P b) = vop (w m1) x1 y1 x2 y2 (pl m1) := fun x1 y1 x2 y2 => by
        unfold v2q
        rw [if_neg (by omega), o1, p1, show w m1 + 1 - 1 = w m1 by first | rfl | omega]
      simp only [ev] at r
      exact r
  · intro i j h1 h2 h3 _ _ i1 hf _ x y x' s e _ hc he
    rw [fl_par h1 h2 h3] at hf
    rw [Cd_par h1 h2 h3] at hc
    rw [vl_par h1 h2 h3]
    exact i1 hf n0 0 0 0 s e m0 hc he
  · intro i j h1 h2 h3 eo1 i1 hf _ x y x' s e _ hc he
    rw [Cd_pre h1 h2 h3] at hc
    obtain ⟨b, c1, rfl, o1, p1⟩ := hc
    have l1 := c1.lt
    have f1 : (fl w E pl 0 (i + 1) j).1 = 0 := by
      rcases h3 with h3 | h3
      · rw [fl_neg h1 h2 h3, fst9_1] at hf; exact hf.1
      · rw [fl_not h1 h2 h3, fst9_1] at hf; exact hf.1
    have g1 := vok _ 0 (i + 1) j (Nat.le_refl _) (Or.inl ⟨rfl, eo1⟩) f1 n0 0
    have ev : vlq w cv pl 0 x' i j = vbd (vlq w cv pl 0 0 (i + 1) j) (fun a b => if w i = 25 then (0, -a, b) else (0, 1 - a, b)) := by
      rcases h3 with h3 | h3
      · rw [vl_neg h1 h2 h3]; simp only [h3, if_true]
      · rw [vl_not h1 h2 h3]; simp only [h3, Int.reduceEq, if_false]
    rw [ev]
    intro t k M Q ht hk hM next flt
    refine i1 f1 n0 0 0 0 s b m0 c1 (by omega) t k M Q (by omega) (by omega) hM (fun M1 k1 z1 l1 g1' b1 p1' t1 => ?_) (fun M1 z1 e1 e2 g1' b1 => ?_)
    · rw [vbd_0 z1] at next flt
      have oo : mI M0 O b = 40 ∨ mI M0 O b = 41 := by rw [o1]; split <;> simp
      have o25 : mI M0 O b = 40 ↔ w i = 25 := by rw [o1]; split <;> simp_all
      refine run_cmp hE (by omega) (by omega) g1'.1 (by omega) (fun io ix => x_Ma_compute1 (x := mI M0 P b) io ix oo g1'.1 t1 (g1.un z1).1) (fun z3 M3 h3 b3 p3 t3 => ?_) (fun z3 M3 e1 e2 h3 b3 => ?_)
      · obtain ⟨h3, b3, v3⟩ := g1'.of (H := H) (sf := sf) (ef := ef) h3 b3
        simp only [o25] at t3
        exact next M3 (k1 + 1) (by split <;> rfl) (by omega) h3 (b1.trans b3) (p1'.trans p3) t3
      · exact absurd (by split <;> rfl) z3
    · rw [vbd_1 z1] at flt
      exact flt M1 z1 e1 e2 g1' b1
  · intro i h1 h3 hf _ x y x' s e _ hc he
    rw [fl_leaf h1 (by omega) h3] at hf
    have hne : w i = 1 → E i ≠ -1 := fun a b => by rw [if_pos ⟨a, b⟩] at hf; exact absurd hf (by simp)
    obtain ⟨-, hl⟩ := hlf i h3 hne
    rw [Cd_leaf h1 (by omega) h3] at hc
    obtain ⟨rfl, o1, p1⟩ := hc
    rw [vl_leaf h1 (by omega) h3]
    exact hl s (by omega) o1 p1
  · intro i j h1 h2 h3 _ _ i1 hf _ x y x' s e _ hc he
    rw [fl_lst h1 h2 h3, fst9_1, kft_1] at hf
    rw [Cd_lst h1 h2 h3] at hc
    rw [vl_lst h1 h2 h3]
    exact i1 hf.1 (fun _ => by rw [hf.2]; decide) (w i + 1) (pl i) (w i) s e (fun _ => ⟨rfl, by omega⟩) hc he
  · intro i j h1 h2 _ i1 hf _ x y x' s e _ hc he
    rw [fl_l1 h1 h2] at hf
    rw [Cd_l1 h1 h2] at hc
    rw [vl_l1 h1 h2]
    exact i1 hf n0 0 0 0 s e m0 hc he
  · intro i m1 j h1 h2 h3 h4 h5 eo1 eo2 i1 i2 hf hz x y x' s e hx hc he
    obtain ⟨hx1, hx2⟩ := hx rfl
    rw [fl_ln h1 h4 h2, fst9_1] at hf
    have cz : ¬ (kdq w E 1 i m1 = 1 ∨ kdq w E 0 (m1 + 1) j = 1) := fun c => hz rfl (by rw [kd_ln h1 h4 h2, if_pos c])
    rw [Cd_ln h1 h4 h2] at hc
    obtain ⟨a, b, c1, c2, rfl, o1, p1⟩ := hc
    have l1 := c1.lt
    have l2 := c2.lt
    have z1 : (1 : Nat) = 1 → kdq w E 1 i m1 ≠ 1 := fun _ u => cz (Or.inl u)
    have g1 := vok _ 1 i m1 (Nat.le_refl _) (Or.inr ⟨rfl, eo1⟩) hf.1 z1 x'
    have g2 := vok _ 0 (m1 + 1) j (Nat.le_refl _) (Or.inl ⟨rfl, eo2⟩) hf.2 n0 0
    have r := rcv_two hF hE l1 l2 he (by omega) g1 g2 (i1 hf.1 z1 x y x' s a (fun _ => ⟨hx1, hx2⟩) c1 (by omega)) (i2 hf.2 n0 0 0 0 a b m0 c2 (by omega))
    rw [vl_ln h1 h4 h2]
    have ev : ∀ x1 y1 x2 y2 : Int, v2q (mI M0 O b) x1 y1 x2 y2 (mI M0 P b) = vbs x' x1 y1 x2 y2 := fun x1 y1 x2 y2 => by
      unfold v2q
      rw [if_pos (by omega), o1, show x - 1 = x' by first | rfl | omega]
    simp only [ev] at r
    exact r
/-- a number's order -/
theorem rcv_num {s : Nat} (hE : Rnv M0 z m Ab0 Be0 p O P K L) (hs : s < L) (o : mI M0 O s = 3) : Rcv G d M0 z m U Ab0 Be0 C0 fv ns sf ef F0 X cc H s0 (0, mI M0 P s, 1) s (s + 1) := by
  intro t i M Q ht hi hM next flt
  refine run_num hE hs (by omega) hM.1 (by omega) o (fun M1 g1 b1 p1 t1 => ?_)
  obtain ⟨g1, b1, v1⟩ := hM.of (H := H) (sf := sf) (ef := ef) g1 b1
  exact next M1 (i + 1) rfl (by omega) g1 b1 p1 t1
/-- a const's order -/
theorem rcv_cst {s x : Nat} (hE : Rnv M0 z m Ab0 Be0 p O P K L) (hs : s < L) (o : mI M0 O s = 4) (ox : mI M0 P s = x) (hx : x < 60) (hv : 1 ≤ mI M0 (p + 7) x ∧ mI M0 (p + 7) x < 1000000000) : Rcv G d M0 z m U Ab0 Be0 C0 fv ns sf ef F0 X cc H s0 (0, mI M0 (p + 6) x, mI M0 (p + 7) x) s (s + 1) := by
  intro t i M Q ht hi hM next flt
  refine run_cst hE hs (by omega) hM.1 (by omega) o ox hx hv (fun M1 g1 b1 p1 t1 => ?_)
  obtain ⟨g1, b1, v1⟩ := hM.of (H := H) (sf := sf) (ef := ef) g1 b1
  exact next M1 (i + 1) rfl (by omega) g1 b1 p1 t1
/-- a var's order -/
theorem rcv_var {s x : Nat} (hE : Rnv M0 z m Ab0 Be0 p O P K L) (hs : s < L) (o : mI M0 O s = 5) (ox : mI M0 P s = x) (hx : x < 12) (hU : ¬ mcS m Ab0 Be0 U ∧ U < mZ M0) : Rcv G d M0 z m U Ab0 Be0 C0 fv ns sf ef F0 X cc H s0 (0, mI M0 U ((mI M0 m 4).toNat + x), 1) s (s + 1) := by
  intro t i M Q ht hi hM next flt
  refine run_var hE hs (by omega) hM.1 (by omega) o ox hx hU (fun M1 g1 b1 p1 t1 => ?_)
  obtain ⟨g1, b1, v1⟩ := hM.of (H := H) (sf := sf) (ef := ef) g1 b1
  exact next M1 (i + 1) rfl (by omega) g1 b1 p1 t1
/-- a formula's order: it is met already, or its own orders run -/
theorem rcv_frm {s x : Nat} (hE : Rnv M0 z m Ab0 Be0 p O P K L) (hs : s < L) (o : mI M0 O s = 7) (ox : mI M0 P s = x) (h7 : ns x = 7) (hx : x < F0) (hF0 : F0 ≤ 60) (hxH : x < H) (hc : cc ≤ 59) (hX : X x) (h8 : mI M0 (p + 8) x = sf x) (hse : sf x < ef x) (heL : ef x < L) (oe : mI M0 O (ef x) = 0) (hs0 : ef x < s0) (rc : Rcv G d M0 z m U Ab0 Be0 C0 fv ns sf ef F0 X (cc + 1) x (sf x) (fv x) (sf x) (ef x)) : Rcv G d M0 z m U Ab0 Be0 C0 fv ns sf ef F0 X cc H s0 (fv x) s (s + 1) := by
  have hL := hE.2.2.2.2.2
  intro t i M Q ht hi hM next flt
  have n9 := hM.1.nine
  refine run_frm hE hs (by omega) hM.1 (by omega) o ox (by omega) (by omega) (hM.2.2 x hX).2 h8 (by omega) (fun u M1 g1 b1 p1 t1 => ?_) (fun u M1 g1 s5 s62 s7 s8 s9 p1 => ?_)
  · obtain ⟨g1, b1, v1⟩ := hM.of (H := H) (sf := sf) (ef := ef) g1 b1
    have ev := hM.2.1 x hx h7 u
    rw [ev] at next
    exact next M1 (i + 1) rfl (by omega) g1 b1 p1 t1
  · obtain ⟨s6, s2⟩ := s62
    have e9 : mI M1 m 9 = mI M m 9 := by rw [g1.nine, n9]
    have g1' : MSv M0 z m U Ab0 Be0 C0 fv ns F0 X M1 t (cc + 1) := ⟨g1, fun y hy hy7 w => by
      rw [s5, e9] at w
      rw [s6, s7]
      exact hM.2.1 y hy hy7 w, fun y hy => by
      rw [s5, s7, e9]
      exact hM.2.2 y hy⟩
    have v1 : ptl m ns sf ef M1 x = ptl m ns sf ef M x := ptl_cg e9 x (fun y _ => by rw [s5])
    have pb := ptl_pos (sf := sf) (ef := ef) h7 u H hxH
    refine rc t (i + 1) M1 Q (by omega) (by omega) g1' (fun M2 i2 z2 l2 g2 b2 p2 t2 => ?_) (fun M2 z2 e1 e2 g2 b2 => flt M2 z2 e1 e2 g2 b2)
    have c8 : mI M2 (m + 8) cc = x := by rw [(b2.1 cc (by omega)).1, s8, if_pos rfl]
    have c9 : mI M2 (m + 9) cc = ((s + 1 : Nat) : Int) := by rw [(b2.1 cc (by omega)).2, s9, if_pos rfl]
    have m9 : mI M2 m 9 = mI M m 9 := by rw [g2.1.nine, n9]
    refine run_back hE heL (by omega) g2.1 oe c8 (by omega) (by omega) c9 (by omega) (fun M3 g3 w3 w4 w5 w6 w7 w8 p3 w2 w9 => ?_)
    have k9 : mI M3 m 9 = mI M2 m 9 := by rw [g3.nine, g2.1.nine]
    have ev : fv x = (0, mI M3 (m + 6) x, mI M3 (m + 7) x) := by
      rw [w7.1, w7.2, t2.1, t2.2]
      exact Prod.ext z2 rfl
    have g3' : MSv M0 z m U Ab0 Be0 C0 fv ns F0 X M3 (t + 1) cc := ⟨g3, fun y hy hy7 w => by
      by_cases yx : y = x
      · rw [yx]; exact ev
      · rw [w5, if_neg yx, k9] at w
        rw [w6 y yx, w8 y yx]
        exact g2.2.1 y hy hy7 w, fun y hy => by
      by_cases yx : y = x
      · rw [yx, w5, if_pos rfl, k9]
        exact ⟨Int.le_refl _, fun _ => w9⟩
      · rw [w5, if_neg yx, w6 y yx, k9]
        exact g2.2.2 y hy⟩
    have q3 : ptl m ns sf ef M3 x = ptl m ns sf ef M2 x := ptl_cg k9 x (fun y hy => by rw [w5, if_neg (by omega)])
    have pm := ptl_two (sf := sf) (ef := ef) (M := M) (M' := M3) (k9.trans m9) h7 u (by rw [w5, if_pos rfl, k9]) (fun y hy => by rw [w5, if_neg (by omega), b2.2.1 y (by omega), s5]) H hxH
    refine next M3 (i2 + 1) z2 (by omega) g3' ⟨fun j hj => ⟨?_, ?_⟩, fun y hy => ?_, by rw [w2, b2.2.2, s2]⟩ ((p1.trans p2).trans (p3.mono (by omega))) (p3.pt (by omega) t2)
    · rw [w3, (b2.1 j (by omega)).1, s8, if_neg (by omega)]
    · rw [w4, (b2.1 j (by omega)).2, s9, if_neg (by omega)]
    · rw [w5, if_neg (by omega), b2.2.1 y (by omega), s5]
end QAF
end
section
/-! The class's machine, exactly: formulas, a whole rule. -/
section QAG
variable {G : mG} {d z m U Ab0 Be0 C0 cc p O P K L F0 H s0 : Nat} {M0 : mM} {w E pl : Nat → Int} {cv : Nat → vrs} {ec : Nat → Int × Int} {fv : Nat → vrs} {ns : Nat → Int} {sf ef : Nat → Nat} {X : Nat → Prop}
/-- what a leaf's order pushes; formulas below H may stand there -/
def Lfq (M0 : mM) (p m U : Nat) (fv : Nat → vrs) (ns : Nat → Int) (H : Nat) (w E : Nat → Int) (cv : Nat → vrs) (ec : Nat → Int × Int) (k : Nat) : Prop := vgd (if w k = 12 ∨ w k = 13 ∨ (w k = 1 ∧ E k = 1) then 1 else 0) (cv k) ∧ (((ec k).1 = 3 ∧ cv k = (0, (ec k).2, 1)) ∨ ((ec k).1 = 4 ∧ ∃ x : Nat, (ec k).2 = x ∧ x < 60 ∧ (1 ≤ mI M0 (p + 7) x ∧ mI M0 (p + 7) x < 1000000000) ∧ cv k = (0, mI M0 (p + 6) x, mI M0 (p + 7) x)) ∨ ((ec k).1 = 5 ∧ ∃ x : Nat, (ec k).2 = x ∧ x < 12 ∧ cv k = (0, mI M0 U ((mI M0 m 4).toNat + x), 1)) ∨ ((ec k).1 = 7 ∧ ∃ x : Nat, (ec k).2 = x ∧ x < H ∧ ns x = 7 ∧ cv k = fv x))
/-- a formula: where its orders lie, and what it is worth -/
def Frq (M0 : mM) (p m U O P L : Nat) (pl w : Nat → Int) (fv : Nat → vrs) (ns : Nat → Int) (sf ef : Nat → Nat) (X : Nat → Prop) (x : Nat) : Prop := X x ∧ mI M0 (p + 8) x = sf x ∧ sf x < ef x ∧ ef x < L ∧ mI M0 O (ef x) = 0 ∧ (∀ y, y < x → ns y = 7 → ef y < sf x) ∧ ∃ (i j : Nat) (E : Nat → Int) (cv : Nat → vrs) (ec : Nat → Int × Int), Eo w 6 i j ∧ (fl w E pl 0 i j).1 = 0 ∧ Cd w ec pl (mI M0 O) (mI M0 P) 0 0 0 i j (sf x) (ef x) ∧ fv x = vlq w cv pl 0 0 i j ∧ ∀ k, (w k = 1 ∨ w k = 2 ∨ w k = 12 ∨ w k = 13) → (w k = 1 → E k ≠ -1) → Lfq M0 p m U fv ns x w E cv ec k
theorem lfq_rc {k : Nat} (hE : Rnv M0 z m Ab0 Be0 p O P K L) (hF0 : F0 ≤ 60) (hH : H ≤ F0) (hc : 1 ≤ H → cc ≤ 59) (hU : ¬ mcS m Ab0 Be0 U ∧ U < mZ M0) (hy : ∀ x, x < H → ns x = 7 → ef x < s0) (sub : ∀ x, x < H → ns x = 7 → Frq M0 p m U O P L pl w fv ns sf ef X x ∧ Rcv G d M0 z m U Ab0 Be0 C0 fv ns sf ef F0 X (cc + 1) x (sf x) (fv x) (sf x) (ef x)) (hl : Lfq M0 p m U fv ns H w E cv ec k) : vgd (if w k = 12 ∨ w k = 13 ∨ (w k = 1 ∧ E k = 1) then 1 else 0) (cv k) ∧ ∀ s, s < L → mI M0 O s = (ec k).1 → mI M0 P s = (ec k).2 → Rcv G d M0 z m U Ab0 Be0 C0 fv ns sf ef F0 X cc H s0 (cv k) s (s + 1) := by
  obtain ⟨g, hl⟩ := hl
  refine ⟨g, fun s hs o1 p1 => ?_⟩
  rcases hl with ⟨q1, q2⟩ | ⟨q1, x, q2, q3, q4, q5⟩ | ⟨q1, x, q2, q3, q4⟩ | ⟨q1, x, q2, q3, q4, q5⟩
  · rw [q2, ← p1]
    exact rcv_num hE hs (o1.trans q1)
  · rw [q5]
    exact rcv_cst hE hs (o1.trans q1) (p1.trans q2) q3 q4
  · rw [q4]
    exact rcv_var hE hs (o1.trans q1) (p1.trans q2) q3 hU
  · rw [q5]
    obtain ⟨⟨f1, f2, f3, f4, f5, -⟩, rc⟩ := sub x q3 q4
    exact rcv_frm hE hs (o1.trans q1) (p1.trans q2) q4 (by omega) hF0 q3 (hc (by omega)) f1 f2 f3 f4 f5 (hy x q3 q4) rc
theorem frm_rc (hF : FMx G) (hE : Rnv M0 z m Ab0 Be0 p O P K L) (hF0 : F0 ≤ 60) (hU : ¬ mcS m Ab0 Be0 U ∧ U < mZ M0) (fr : ∀ x, x < F0 → ns x = 7 → Frq M0 p m U O P L pl w fv ns sf ef X x) : ∀ x, x < F0 → ns x = 7 → ∀ cc, cc + x ≤ 60 → Rcv G d M0 z m U Ab0 Be0 C0 fv ns sf ef F0 X cc x (sf x) (fv x) (sf x) (ef x) := by
  intro x
  induction x using Nat.strongRecOn with
  | ind x ih =>
    intro hx h7 cc hcc
    obtain ⟨-, -, fse, feL, -, fy, i, j, E, cv, ec, eo, hfl, hcd, ev, lf⟩ := fr x hx h7
    rw [ev]
    exact run_allv hF hE (fun k h1 h2 => lfq_rc hE hF0 (by omega) (fun u => by omega) hU fy (fun y hy hy7 => ⟨fr y (by omega) hy7, ih y hy (by omega) hy7 (cc + 1) (by omega)⟩) (lf k h1 h2)) _ 0 i j (Nat.le_refl _) (Or.inl ⟨rfl, eo⟩) hfl (fun u => absurd u (by decide)) 0 0 0 (sf x) (ef x) (fun u => absurd u (by decide)) hcd (by omega)
end QAG
end
end
section
section
/-! The class's machine, exactly: what is set. -/
section QAH
variable {G : mG} {d z m U Ab0 Be0 C0 t c p O P K L i pc : Nat} {M0 M : mM} {a b : Int} {Q : Int → mM → Prop}
/-- the fault of a number that is set -/
def stfq (a b lo hi x : Int) : Int × Int := if b ≠ 1 then (8, x) else if a < lo ∨ hi < a then (12, x) else (0, 0)
/-- a number is set, or a fault is told -/
def setQ9 (M0 : mM) (z m U Ab0 Be0 C0 : Nat) (M : mM) (t c : Nat) (f : Int × Int) (v : Nat) (a : Int) (r : Int) (M' : mM) : Prop := ((r = 0 ∧ f.1 ≠ 0 ∧ mI M' m 1 = f.1 ∧ mI M' m 2 = f.2) ∨ (r = 1 ∧ f.1 = 0 ∧ plq M M' m t ∧ ∀ j, mI M' (m + 2) j = if j = v then a else mI M (m + 2) j)) ∧ MS M0 z m U Ab0 Be0 C0 M' t c ∧ mtb m M M'
theorem x_Ma_store {x : Int} {v : Nat} (ix : i32 x) (hv : v < 12) (h : MS M0 z m U Ab0 Be0 C0 M (t + 1) c) (hp : PK M z p O P K) (h0 : mR M m 0 = p) (mp : p + 15 < m ∨ m + 9 < p) (h1 : ptq M m t a b) : Ci G y_Ma_store (d + 1) [vr m, vi x, vi v] M (setQ9 M0 z m U Ab0 Be0 C0 M t c (stfq a b (mI M (p + 3) v) (mI M (p + 4) v) x) v a) := by
  obtain ⟨ok, k0, h8, kA, kB, tA, tB, bA, bB, hb, ⟨mA, mB⟩, ne⟩ := h.pile
  refine k_Ma_store ok ix (i32s (by omega) (by omega)) ⟨k0, ⟨by omega, by omega⟩, fun M3 e3 => ?_⟩
  obtain ⟨h3, b3, f3⟩ := ms_top (t' := t) h (by omega) (by omega) e3
  obtain ⟨ok3, k03, h83, kA3, kB3, tA3, tB3, bA3, bB3, hb3, -, -⟩ := h3.pile
  have hp3 := hp.fi f3
  have h03 : mR M3 m 0 = p := by rw [f3.2.2.1]; exact h0
  have hm5 : mR M3 m 5 = m + 2 ∧ mK M3 (m + 2) = 30 ∧ mN M3 (m + 2) = 12 := by
    obtain ⟨_, _, _, -, hk, -⟩ := h3
    exact ⟨hk.2.1.2.1, hk.2.2.1.2.1, hk.2.2.2.1.1⟩
  have lA : mN M3 (mR M3 m 6) = mN M (mR M m 6) := by rw [f3.2.1, f3.2.2.1]
  have lB : mN M3 (mR M3 m 7) = mN M (mR M m 7) := by rw [f3.2.1, f3.2.2.1]
  obtain ⟨pk, -, -, -, -, -, ⟨⟨p4, p5, -⟩, ⟨pk4, pk5, -⟩, ⟨pn4, pn5, -⟩⟩⟩ := hp3
  have pq : plq M M3 m (t + 1) := plq.fi f3 ⟨mA, mB⟩
  have pt := pq.pt (by omega) h1
  have i3 : ∀ i, i ≤ 15 → mI M3 (p + i) = mI M (p + i) := fun i hi => f3.2.2.2.2.2.2 _ (show ¬ p + i = m by first | rfl | omega)
  have n2 : mI M3 (m + 2) = mI M (m + 2) := f3.2.2.2.2.2.2 _ (show ¬ m + 2 = m by first | rfl | omega)
  have ia : i32 a := by rw [← h1.1]; exact (ok _ _).1
  rw [h03, p4, p5, pn4, pn5, lA, lB, h83, Int.toNat_natCast, Int.toNat_natCast, hm5.1, hm5.2.2, pt.1, pt.2, i3 3 (by omega), i3 4 (by omega)]
  have st : ∀ {y : Int}, i32 y → y ≠ 0 → stfq a b (mI M (p + 3) v) (mI M (p + 4) v) x = (y, x) → Ci G y_Ma_stop d [vr m, vi y, vi x] M3 (fun r M' => i32 r ∧ mOk M' ∧ ((r = 0 ∨ r = 1) ∧ setQ9 M0 z m U Ab0 Be0 C0 M t c (stfq a b (mI M (p + 3) v) (mI M (p + 4) v) x) v a r M')) := fun {y} hy y0 ef => (x_Ma_stop hy ix h3).mono (fun r M' q => by
    obtain ⟨e, q1, q2, q3, q4⟩ := q
    rw [e, ef]
    exact ⟨i32s (by omega) (by omega), q1.pile.1, Or.inl rfl, Or.inl ⟨rfl, y0, q3, q4⟩, q1, b3.trans q2.mtb⟩)
  refine ⟨kB3, by omega, fun y1 => ⟨kA3, by omega, pk, pk4, by omega, fun _ => ⟨by omega, pk5, by omega⟩, fun y2 => st (i32s (by omega) (by omega)) (by decide) (by unfold stfq; rw [if_neg (fun u => u y1), if_pos (by omega)]), fun y2 => ⟨by omega, hm5.2.1, by omega, fun M45 e45 => ?_⟩⟩, fun y1 => st (i32s (by omega) (by omega)) (by decide) (by unfold stfq; rw [if_pos y1])⟩
  have w := ms_nxt h3 ia e45
  obtain ⟨Ab, Be, C, -, hk, -⟩ := id h3
  obtain ⟨sA, sB, sne, sz⟩ := hk.2.2.2.2.2.1
  have r6 := hk.2.1.2.2.1
  have r7 := hk.2.1.2.2.2.1
  have f45 : FI (fun b => b = m + 2) M3 M45 := by rw [e45]; exact FI.ui rfl
  refine ⟨Or.inr ⟨rfl, by unfold stfq; rw [if_neg (fun u => u y1), if_neg (by omega)], fun j hj => ?_, fun j => ?_⟩, w.1, b3.trans w.2⟩
  · rw [f45.2.2.1, r6, r7, f45.2.2.2.2.2.2 Ab (show ¬ Ab = m + 2 by first | rfl | omega), f45.2.2.2.2.2.2 Be (show ¬ Be = m + 2 by first | rfl | omega), ← r6, ← r7]
    exact pq j (by omega)
  · rw [mI_ui _ j e45, n2]
    by_cases y : j = v
    · rw [if_pos ⟨rfl, y⟩, if_pos y]
    · rw [if_neg (fun q => y q.2), if_neg y]
theorem run_set {pp : Int} {v : Nat} (hE : Rnv M0 z m Ab0 Be0 p O P K L) (hpc : pc < L) (hi : i < 1000000) (hM : MS M0 z m U Ab0 Be0 C0 M (t + 1) c) (o : mI M0 O pc = 43) (ox : mI M0 P pc = pp * 16 + (v : Int)) (hv : v < 12) (hpp : 0 ≤ pp ∧ pp ≤ 16384) (pt : ptq M m t a b) (next : (stfq a b (mI M0 (p + 3) v) (mI M0 (p + 4) v) pp).1 = 0 → ∀ M', MS M0 z m U Ab0 Be0 C0 M' t c → mtb m M M' → plq M M' m t → (∀ j, mI M' (m + 2) j = if j = v then a else mI M (m + 2) j) → h_Ma_run_14 G (d + 3) m ((pc + 1 : Nat) : Int) ((i + 1 : Nat) : Int) M' Q) (flt : (stfq a b (mI M0 (p + 3) v) (mI M0 (p + 4) v) pp).1 ≠ 0 → ∀ M', mI M' m 1 = (stfq a b (mI M0 (p + 3) v) (mI M0 (p + 4) v) pp).1 → mI M' m 2 = (stfq a b (mI M0 (p + 3) v) (mI M0 (p + 4) v) pp).2 → MS M0 z m U Ab0 Be0 C0 M' t c → mtb m M M' → Q 0 M') : h_Ma_run_14 G (d + 3) m (pc : Int) (i : Int) M Q := by
  obtain ⟨hp, hm0, ha, hL, hLK, hLn⟩ := hE
  obtain ⟨ok, k0, h8, kA, kB, tA, tB, bA, bB, hb, ⟨mA, mB⟩, ne⟩ := hM.pile
  obtain ⟨hp1, hr0, iO, iP, iT⟩ := hM.prog hp hm0 ha
  obtain ⟨pk, ⟨pr0, pr1⟩, ⟨kO, kP, nO, nP⟩, -, -, -, ⟨⟨-, -, -, p8, p9, -⟩, ⟨-, -, -, pk8, pk9, -⟩, ⟨-, -, -, pn8, pn9, -⟩⟩⟩ := id hp1
  have l2 : mI M p 2 = L := by rw [show p = p + 0 by first | rfl | omega, iT 0 (by omega)]; exact hL
  have no : ¬ ((1000000 : Int) ≤ (i : Int) ∨ ((pc : Int) < 0 ∨ mI M (mR M m 0) 2 ≤ (pc : Int))) := by rw [hr0, l2]; omega
  refine k_Ma_run_14 ok (i32s (by omega) (by omega)) ⟨by omega, by omega⟩ ⟨fun _ _ => ⟨k0, by rw [hr0]; exact pk⟩, fun y => absurd y no, fun _ => ?_⟩
  rw [hr0, pr0, pr1, p8, p9, pn8, pn9, nO, nP, iO, iP, Int.toNat_natCast, show ((i : Int) + 1) = ((i + 1 : Nat) : Int) by first | rfl | omega, show ((pc : Int) + 1) = ((pc + 1 : Nat) : Int) by first | rfl | omega]
  have io : i32 (mI M0 O pc) := by rw [← iO]; exact (ok _ _).1
  have ix : i32 (mI M0 P pc) := by rw [← iP]; exact (ok _ _).1
  have st : Ci G y_Ma_compute (d + 3) [vr m, vi (mI M0 O pc), vi (mI M0 P pc)] M (setQ9 M0 z m U Ab0 Be0 C0 M t c (stfq a b (mI M0 (p + 3) v) (mI M0 (p + 4) v) pp) v a) := by
    refine k_Ma_computew ok io ix ⟨fun y => absurd y (by rw [o]; decide), fun _ => ⟨fun y => absurd y (by rw [o]; decide), fun _ => ⟨fun _ => ⟨k0, ?_⟩, fun y => absurd o y⟩⟩⟩
    rw [ox, show Int.tdiv (pp * 16 + (v : Int)) 16 = pp by rw [Int.tdiv_eq_ediv_of_nonneg (by omega)]; omega, show Int.tmod (pp * 16 + (v : Int)) 16 = (v : Int) by rw [Int.tmod_eq_emod_of_nonneg (by omega)]; omega, ← iT 3 (by omega), ← iT 4 (by omega)]
    refine (x_Ma_store (d := d + 1) (i32s (by omega) (by omega)) hv hM hp1 hr0 ha.1 pt).mono (fun r M' q => ?_)
    have r01 : r = 0 ∨ r = 1 := q.1.imp (fun u => u.1) (fun u => u.1)
    exact ⟨m_b32 r01, q.2.1.pile.1, r01, q⟩
  refine ⟨k0, pk, kO, by omega, kP, by omega, fun o0 => absurd o0 (by omega), fun _ => ⟨fun o3 => absurd o3 (by omega), fun _ => ⟨fun o4 => absurd o4 (by omega), fun _ => ⟨fun o5 => absurd o5 (by omega), fun _ => ⟨fun o7 => absurd o7 (by omega), fun _ => ⟨fun o30 => absurd o30 (by omega), fun _ => ⟨fun o33 => absurd o33 (by omega), fun _ => ⟨fun o42 => absurd o42 (by omega), fun _ => st.mono (fun r M' q => ?_)⟩⟩⟩⟩⟩⟩⟩⟩
  obtain ⟨q1, q2, q3⟩ := q
  rcases q1 with ⟨e1, w0, w1, w2⟩ | ⟨e1, w0, w1, w2⟩
  · rw [e1]
    exact ⟨i32s (by omega) (by omega), q2.pile.1, fun _ => flt w0 M' w1 w2 q2 q3, fun u => absurd rfl u⟩
  · rw [e1]
    exact ⟨i32s (by omega) (by omega), q2.pile.1, fun u => absurd u (by decide), fun _ => next w0 M' q2 q3 w1 w2⟩
end QAH
end
section
/-! The class's machine, exactly: all sets of a branch. -/
section QAI
variable {G : mG} {d z m U Ab0 Be0 C0 cc p O P K L F0 H s0 : Nat} {M0 : mM} {w E pl lo hi : Nat → Int} {cv : Nat → vrs} {ec : Nat → Int × Int} {fv : Nat → vrs} {ns : Nat → Int} {sf ef : Nat → Nat} {X : Nat → Prop}
/-- the orders of sets: the var, its rule from i to j, the word whose place a fault tells -/
def Scd (w : Nat → Int) (ec : Nat → Int × Int) (pl : Nat → Int) (O P : Nat → Int) : List (Nat × Nat × Nat × Nat) → Nat → Nat → Prop
  | [], s, e => s = e
  | q :: r, s, e => ∃ a : Nat, Cd w ec pl O P 0 0 0 q.2.1 q.2.2.1 s a ∧ O a = 43 ∧ P a = pl q.2.2.2 * 16 + (q.1 : Int) ∧ Scd w ec pl O P r (a + 1) e
/-- what sets make of the next state, and the first fault -/
noncomputable def stq9 (w : Nat → Int) (cv : Nat → vrs) (pl lo hi : Nat → Int) : List (Nat × Nat × Nat × Nat) → (Nat → Int) → (Int × Int) × (Nat → Int)
  | [], nx => ((0, 0), nx)
  | q :: r, nx => if (vlq w cv pl 0 0 q.2.1 q.2.2.1).1 ≠ 0 then (((vlq w cv pl 0 0 q.2.1 q.2.2.1).1, (vlq w cv pl 0 0 q.2.1 q.2.2.1).2.1), nx) else if (stfq (vlq w cv pl 0 0 q.2.1 q.2.2.1).2.1 (vlq w cv pl 0 0 q.2.1 q.2.2.1).2.2 (lo q.1) (hi q.1) (pl q.2.2.2)).1 ≠ 0 then (stfq (vlq w cv pl 0 0 q.2.1 q.2.2.1).2.1 (vlq w cv pl 0 0 q.2.1 q.2.2.1).2.2 (lo q.1) (hi q.1) (pl q.2.2.2), nx) else stq9 w cv pl lo hi r (fun j => if j = q.1 then (vlq w cv pl 0 0 q.2.1 q.2.2.1).2.1 else nx j)
theorem MSv.ofb {M M' : mM} {t t' c : Nat} (h : MSv M0 z m U Ab0 Be0 C0 fv ns F0 X M t c) (k : MS M0 z m U Ab0 Be0 C0 M' t' c) (b : mtb m M M') : MSv M0 z m U Ab0 Be0 C0 fv ns F0 X M' t' c ∧ ptl m ns sf ef M' H = ptl m ns sf ef M H := by
  have e9 : mI M' m 9 = mI M m 9 := by rw [k.nine, h.1.nine]
  refine ⟨⟨k, fun x hx h7 u => ?_, h.2.2.mtb b e9⟩, ptl_cg e9 H (fun x _ => by rw [b (m + 5) (by omega) (by omega)])⟩
  rw [b (m + 5) (by omega) (by omega), e9] at u
  rw [b (m + 6) (by omega) (by omega), b (m + 7) (by omega) (by omega)]
  exact h.2.1 x hx h7 u
theorem Scd.le : ∀ (l : List (Nat × Nat × Nat × Nat)) {s e : Nat}, Scd w ec pl (mI M0 O) (mI M0 P) l s e → s ≤ e
  | [], _, _, h => Nat.le_of_eq h
  | q :: r, s, e, h => by
    obtain ⟨a, c1, -, -, c2⟩ := h
    have l1 := c1.lt
    have l2 := Scd.le r c2
    omega
end QAI
end
end
section
section
/-! A table of slots, pure: 1024 slots hold at most 512 states; a state is found by going on from its own slot. -/
section SLO
theorem php9 : ∀ (n m : Nat) (f : Nat → Nat), (∀ i, i < m → f i < n) → (∀ i j, i < m → j < m → f i = f j → i = j) → m ≤ n := by
  intro n
  induction n with
  | zero =>
    intro m f h _
    by_cases y : m = 0
    · omega
    · exact absurd (h 0 (by omega)) (by omega)
  | succ n ih =>
    intro m f h hi
    by_cases y : m = 0
    · omega
    · obtain ⟨m', rfl⟩ : ∃ m', m = m' + 1 := ⟨m - 1, by omega⟩
      have := ih m' (fun i => if f i = n then f m' else f i) (fun i hi' => by
        show (if f i = n then f m' else f i) < n
        have a := h i (by omega)
        have b := h m' (by omega)
        by_cases u : f i = n
        · rw [if_pos u]
          by_cases v : f m' = n
          · have := hi i m' (by omega) (by omega) (by omega)
            omega
          · omega
        · rw [if_neg u]
          omega) (fun i j hi' hj e => by
        have e : (if f i = n then f m' else f i) = (if f j = n then f m' else f j) := e
        by_cases u : f i = n <;> by_cases v : f j = n
        · exact hi i j (by omega) (by omega) (by omega)
        · rw [if_pos u, if_neg v] at e
          have := hi m' j (by omega) (by omega) e
          omega
        · rw [if_neg u, if_pos v] at e
          have := hi i m' (by omega) (by omega) e
          omega
        · rw [if_neg u, if_neg v] at e
          exact hi i j (by omega) (by omega) e)
      omega
/-- slots sl hold the n states; hs k is where state k would like to stand -/
def SLq (sl : Nat → Int) (hs : Nat → Nat) (n : Nat) : Prop := (∀ j, j < 1024 → sl j = -1 ∨ ∃ k : Nat, k < n ∧ sl j = k) ∧ (∀ k, k < n → ∃ t, t < 1024 ∧ sl ((hs k + t) % 1024) = (k : Int) ∧ ∀ t', t' < t → sl ((hs k + t') % 1024) ≠ -1) ∧ ∀ i j, i < 1024 → j < 1024 → sl i = sl j → sl i ≠ -1 → i = j
variable {sl sl' : Nat → Int} {hs : Nat → Nat} {n h : Nat}
/-- there is a free slot -/
theorem SLq.free (s : SLq sl hs n) (hn : n < 1024) : ∃ t, t < 1024 ∧ sl ((h + t) % 1024) = -1 := by
  refine Classical.byContradiction (fun u => ?_)
  have a : ∀ j, j < 1024 → ∃ k : Nat, k < n ∧ sl j = k := fun j hj => by
    rcases s.1 j hj with w | w
    · refine absurd ⟨(j + 1024 - h % 1024) % 1024, by omega, ?_⟩ u
      rw [show (h + (j + 1024 - h % 1024) % 1024) % 1024 = j by first | rfl | omega]
      exact w
    · exact w
  have b := php9 n 1024 (fun j => (sl j).toNat) (fun j hj => by
    obtain ⟨k, k1, k2⟩ := a j hj
    show (sl j).toNat < n
    rw [k2]
    omega) (fun i j hi hj e => by
    obtain ⟨k, k1, k2⟩ := a i hi
    obtain ⟨l, l1, l2⟩ := a j hj
    have e : (sl i).toNat = (sl j).toNat := e
    rw [k2, l2] at e
    exact s.2.2 i j hi hj (by rw [k2, l2]; omega) (by rw [k2]; omega))
  omega
/-- state k, looked for from its own slot, is not passed over: at step t the slot is filled, and it is k's or comes before k's -/
theorem SLq.step {k t : Nat} (s : SLq sl hs n) (hk : k < n) (ht : t < 1024) (hb : ∀ t', t' < t → sl ((hs k + t') % 1024) ≠ (k : Int)) : sl ((hs k + t) % 1024) ≠ -1 := by
  obtain ⟨t0, a1, a2, a3⟩ := s.2.1 k hk
  by_cases y : t < t0
  · exact a3 t y
  · by_cases y2 : t = t0
    · rw [y2, a2]
      omega
    · exact absurd a2 (hb t0 (by omega))
/-- a new state takes the first free slot from its own on -/
theorem SLq.put {t : Nat} (s : SLq sl hs n) (hh : hs n % 1024 = h % 1024) (ht : t < 1024) (hf : sl ((h + t) % 1024) = -1) (hb : ∀ t', t' < t → sl ((h + t') % 1024) ≠ -1) (e : ∀ j, j < 1024 → sl' j = if j = (h + t) % 1024 then (n : Int) else sl j) : SLq sl' hs (n + 1) := by
  have m : ∀ x : Nat, x % 1024 < 1024 := fun x => Nat.mod_lt _ (by decide)
  refine ⟨fun j hj => ?_, fun k hk => ?_, fun i j hi hj u v => ?_⟩
  · rw [e j hj]
    by_cases y : j = (h + t) % 1024
    · rw [if_pos y]
      exact Or.inr ⟨n, by omega, rfl⟩
    · rw [if_neg y]
      exact (s.1 j hj).imp id (fun ⟨k, k1, k2⟩ => ⟨k, by omega, k2⟩)
  · by_cases y : k = n
    · refine ⟨t, ht, ?_, fun t' h' => ?_⟩
      · rw [e _ (m _), if_pos (by rw [y]; omega), y]
      · rw [e _ (m _)]
        by_cases z : (hs k + t') % 1024 = (h + t) % 1024
        · rw [if_pos z]
          omega
        · rw [if_neg z, show (hs k + t') % 1024 = (h + t') % 1024 by rw [y]; omega]
          exact hb t' h'
    · obtain ⟨t0, a1, a2, a3⟩ := s.2.1 k (by omega)
      refine ⟨t0, a1, ?_, fun t' h' => ?_⟩
      · rw [e _ (m _), if_neg (fun z => by rw [z, hf] at a2; omega)]
        exact a2
      · rw [e _ (m _)]
        by_cases z : (hs k + t') % 1024 = (h + t) % 1024
        · rw [if_pos z]
          omega
        · rw [if_neg z]
          exact a3 t' h'
  · rw [e i hi, e j hj] at u
    rw [e i hi] at v
    have nk : ∀ x, x < 1024 → sl x ≠ (n : Int) := fun x hx w => by
      rcases s.1 x hx with w2 | ⟨k, k1, k2⟩
      · rw [w2] at w; omega
      · rw [k2] at w; omega
    by_cases y : i = (h + t) % 1024 <;> by_cases z : j = (h + t) % 1024
    · omega
    · rw [if_pos y, if_neg z] at u
      exact absurd u.symm (nk j hj)
    · rw [if_neg y, if_pos z] at u
      exact absurd u (nk i hi)
    · rw [if_neg y, if_neg z] at u
      rw [if_neg y] at v
      exact s.2.2 i j hi hj u v
/-- no state yet -/
theorem SLq.nil (e : ∀ j, j < 1024 → sl j = -1) : SLq sl hs 0 := ⟨fun j hj => Or.inl (e j hj), fun k hk => absurd hk (by omega), fun i j hi _ _ v => absurd (e i hi) v⟩
end SLO
end
section
/-! What exploring a text comes to: pure. -/
/-- what a rule is worth in a state -/
noncomputable def evq (W pl nq : Nat → Int) (sm : Nat → Nat → Prop) (N : Nat) (nms : List nm9) (sg : List Int) (i j : Nat) : vrs := vlq W (cvs W pl nq sm N (fun v => sg.getD v 0) nms.reverse) pl 0 0 i j
/-- what sets make of a state -/
noncomputable def stpq (W pl nq : Nat → Int) (sm : Nat → Nat → Prop) (N : Nat) (nms : List nm9) (V : Nat) (lo hi : Nat → Int) (sg : List Int) (l : List (Nat × Nat × Nat × Nat)) : (Int × Int) × List Int := ((stq9 W (cvs W pl nq sm N (fun v => sg.getD v 0) nms.reverse) pl lo hi l (fun v => sg.getD v 0)).1, (List.range V).map (stq9 W (cvs W pl nq sm N (fun v => sg.getD v 0) nms.reverse) pl lo hi l (fun v => sg.getD v 0)).2)
/-- a fault and its place, its state; the states, their kinds and commands -/
abbrev xR9 : Type := (Int × Int) × Nat × List (List Int) × xt9
/-- what exploring a text comes to -/
noncomputable def XpG (γ : gW9) : xR9 := xpl9 (evq γ.1 γ.2.1 γ.2.2.1 γ.2.2.2.1 γ.2.2.2.2.1 γ.2.2.2.2.2.1) (stpq γ.1 γ.2.1 γ.2.2.1 γ.2.2.2.1 γ.2.2.2.2.1 γ.2.2.2.2.2.1 γ.2.2.2.2.2.2.1.length (fun v => (γ.2.2.2.2.2.2.1.getD v (0, 0, 0)).1) (fun v => (γ.2.2.2.2.2.2.1.getD v (0, 0, 0)).2.1)) (γ.2.2.2.2.2.2.2.1.getD (0, 0)) γ.2.2.2.2.2.2.2.2 (γ.2.2.2.2.2.2.1.map (fun x => x.2.2))
end
end
