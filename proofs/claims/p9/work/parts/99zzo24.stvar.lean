section
/-! The class's reader of texts, exactly: a var as an item. -/
section TXY
variable {G : mG} {d z q w T A B D N C n p O P K Ab Be Cm V F c L cnt a nw k e i j b Nn sl x y : Nat} {M0 M M' M1 M2 : mM} {ns : Nat → Int} {sf ef : Nat → Nat} {H : Nat → Nat} {W pl nq E : Nat → Int} {Cf : Nat → Int × Int} {sm : Nat → Nat → Prop} {s s' : st9} {ft f2 X I : Int × Int} {tr : Int} {g : gm9}
theorem ec_1 (ec : ECq M (q + 1) p n W nq sm s.1 c 1 E Cf) (ct : CT M (q + 1) p s.1) (hl : s.1.length = c) : E = E9 sm s.1 1 := by
  have u := (ec.2 ct hl).1
  rw [if_neg (by decide)] at u
  exact u
theorem rw_mk (wt : WTq M1 T A B D n W pl nq sm) (h : TX M1 z q w T A B D N C n p O P K Ab Be Cm V F ns sf ef c cnt L) (ec : ECq M (q + 1) p n W nq sm s.1 c 1 E Cf) (ct : CT M (q + 1) p s.1) (hl : s.1.length = c) (tx : txF M q p O P 0 M1) (rv : rvQz W pl Cf q O P k x y b M1) (eo : Eo W 6 x y) (hz : (vrf W E pl tr x y).1 = 0) : rwE W pl (cvn W nq sm s.1 n) q p O P b k x y tr M1 := by
  have h9 : ∀ i, i < c → mI M1 (q + 1 + 9) i = 0 ∨ mI M1 (q + 1 + 9) i = 1 := fun i hi => (h.2.1.2.2.1.2.2 i hi).2.2
  exact ⟨E, Cf, rv, lf_ex wt (ec.fw ct tx.2) (ct.tx tx.2) hl h9, eo, (vrf_z hz).1, (vrf_z hz).2⟩
theorem Eo.no9 {v : Int} (eo : Eo W 6 x y) (hv : v = 9 ∨ v = 16 ∨ v = 17) (h1 : x ≤ j) (h2 : j < y) : W j ≠ v := fun u => by
  have r := eo.rw9 h1 h2
  unfold rwd at r
  omega
/-- what a var's values keep to, if none is at fault -/
theorem sv9_bd {t8 i7 p0 p1 p2 : Int} {lo hi be : vrs} (h8 : t8 = 0 ∨ t8 = 1) (h : (sv9 t8 i7 lo hi be p0 p1 p2).1 = 0) (g01 : t8 = 0 → vgd 0 lo ∧ vgd 0 hi) (g2 : i7 ≠ 0 → vgd t8 be) : ((if t8 = 1 then (0 : Int) else lo.2.1).natAbs ≤ 999999999 ∧ (if t8 = 1 then (1 : Int) else hi.2.1).natAbs ≤ 999999999) ∧ ((if t8 = 1 then (0 : Int) else lo.2.1) ≤ (if i7 = 0 then (if t8 = 1 then (0 : Int) else lo.2.1) else be.2.1) ∧ (if i7 = 0 then (if t8 = 1 then (0 : Int) else lo.2.1) else be.2.1) ≤ (if t8 = 1 then (1 : Int) else hi.2.1)) ∧ (t8 = 1 → (if t8 = 1 then (0 : Int) else lo.2.1) = 0 ∧ (if t8 = 1 then (1 : Int) else hi.2.1) = 1) := by
  unfold sv9 at h
  obtain ⟨h1, h2⟩ := fst9_1.mp h
  rcases h8 with e | e
  · have n1 : ¬ t8 = 1 := by omega
    rw [if_neg n1] at h1 h2
    rw [if_neg n1, if_neg n1]
    obtain ⟨h3, h4⟩ := fst9_1.mp h1
    obtain ⟨h5, h6⟩ := fst9_1.mp h3
    have l0 := (wh9_z h5).1
    have h0 := (wh9_z h6).1
    obtain ⟨g0, g1⟩ := g01 e
    have b0 := (g0.resolve_right (fun u => by omega)).2.1
    have b1 := (g1.resolve_right (fun u => by omega)).2.1
    have c1 : lo.2.1 ≤ hi.2.1 := Classical.byContradiction (fun u => by
      rw [if_neg (fun v => u v.1)] at h4
      exact absurd h4 (by simp))
    refine ⟨⟨b0, b1⟩, ?_, fun u => absurd u n1⟩
    by_cases i0 : i7 = 0
    · rw [if_pos i0]
      exact ⟨Int.le_refl _, c1⟩
    · rw [if_neg i0] at h2 ⊢
      obtain ⟨-, h8⟩ := fst9_1.mp h2
      exact Classical.byContradiction (fun u => by
        rw [if_neg u] at h8
        exact absurd h8 (by simp))
  · rw [if_pos e] at h2
    rw [if_pos e, if_pos e]
    refine ⟨⟨by decide, by decide⟩, ?_, fun _ => ⟨rfl, rfl⟩⟩
    by_cases i0 : i7 = 0
    · rw [if_pos i0]
      exact ⟨by decide, by decide⟩
    · rw [if_neg i0] at h2 ⊢
      have z := wh9_z h2
      have g := (g2 i0).resolve_right (fun u => by omega)
      have t := (g.2.2.2.2 e).1
      omega
theorem x_st_var (hFx : FMx G) (h0 : TX M z q w T A B D N C n p O P K Ab Be Cm V F ns sf ef c cnt L) (h : TX M1 z q w T A B D N C n p O P K Ab Be Cm V F ns sf ef c cnt L) (hv : vrS M1 q A n p L sl a nw V) (h8 : mI M1 q 8 = 0 → rvR M1 q O P F ns L sl 0 ∧ rvR M1 q O P F ns L sl 1) (h7 : mI M1 q 7 ≠ 0 → rvR M1 q O P F ns L sl 2) (zs : itZ q p s M) (wt : WTq M1 T A B D n W pl nq sm) (w4 : W k = 4) (hNn : n ≤ Nn) (va : vaV W pl nq sm M q p O P n c V k s.1 s.2.2 1 M1) (hp0 : mI M p 2 = ((L : Nat) : Int)) (cg : s.2.2.1 = 0 → CGm M p O P W pl nq sm Nn n s g) : ∃ e, mI M1 (q + 1) 2 = ((e + 1 : Nat) : Int) ∧ Rc W [50] 0 [50] (e + 1) ∧ k ≤ e ∧ nxq W 34 Nn k = e ∧ Cv G y_TR_settleVar (d + 6) [vr q] M1 (fun M' => itE M1 z q w T A B D N C n p O P K Ab Be Cm M' ∧ itZ q p (sN W pl nq sm Nn k s) M' ∧ mI M' (q + 1) 2 = ((a : Nat) : Int) ∧ ((sN W pl nq sm Nn k s).2.2.1 = 0 → CGm M' p O P W pl nq sm Nn n (sN W pl nq sm Nn k s) (igm9 W pl nq sm Nn s.1 k g))) := by
  obtain ⟨a', ea', va⟩ := va
  obtain ⟨-, ⟨w1, w33⟩, q3, rc, e, i, b, f2, X, I, ae, w34, ⟨pb, tx, txO⟩, kn, hFT, bo, ini⟩ := va.resolve_left (fun u => absurd u.1 (by first | decide | simp))
  clear va
  have esl : sl = b := by
    have := hv.1
    rw [pb] at this
    omega
  have hnw : nw = k + 1 := by
    have := hv.2.2.2.2.2.2.1
    rw [q3] at this
    omega
  have een : e + 1 ≤ n := by
    have u1 := hv.2.2.2.1
    have u2 := hv.2.2.2.2.1
    rw [ea', ae] at u1
    clear bo ini
    omega
  subst esl
  have n3 : no34 W k (k + 3) := (((no34.nil : no34 W k k).sc (by rw [w4]; decide)).sc (by rw [w1]; decide)).sc (by rw [w33]; decide)
  have ni : no34 W k i := by
    rcases bo with ⟨w5, ei, -, -⟩ | ⟨-, -, j, E0, E1, C0, C1, eo0, w16, eo1, -⟩
    · rw [ei]
      exact n3.sc (by rw [w5]; decide)
    · exact ((n3.eo eo0).sc (by rw [w16]; decide)).eo eo1
  have ie : i ≤ e := by
    rcases ini with ⟨-, ei, -, -⟩ | ⟨-, -, E2, C2, eo2, -⟩
    · omega
    · have := eo2.pr.1
      omega
  have ne : no34 W k e := by
    rcases ini with ⟨-, ei, -, -⟩ | ⟨w9, -, E2, C2, eo2, -⟩
    · rw [← ei]
      exact ni
    · exact (ni.sc (by rw [w9]; decide)).eo eo2
  have nx : nxq W 34 Nn k = e := nxq_34 ne w34 (by
    clear bo ini
    omega)
  refine ⟨e, by rw [← ae]; exact ea', by rw [← ae]; exact rc, ne.1, nx, ?_⟩
  by_cases f0 : s.2.2.1 = 0
  · have cs := zs.2 f0
    have ct := cs.1
    obtain ⟨hl, eV, eF, eC⟩ := cs.len h0
    have V12 : V ≤ 12 := h.2.1.1.2
    have cs1 := cs.tx tx.2
    have kn := kn ct hl
    rw [fst9_zr f0] at hFT
    have bo' : ∃ j, (W (k + 3) ≠ 5 → nxq W 16 Nn (k + 3) = j) ∧ (mI M1 q 8 = if W (k + 3) = 5 then 1 else 0) ∧ (X = if W (k + 3) = 5 then (0, 0) else fst9 (rf9 W pl sm s.1 1 0 (k + 3) j) (rf9 W pl sm s.1 1 0 (j + 1) i)) ∧ ((if W (k + 3) = 5 then k + 4 else nxq W 9 (e - (k + 3)) (k + 3)) = i) ∧ (X.1 = 0 → mI M1 q 8 = 0 → rwE W pl (cvn W nq sm s.1 n) q p O P sl 0 (k + 3) j 0 M1 ∧ rwE W pl (cvn W nq sm s.1 n) q p O P sl 1 (j + 1) i 0 M1) ∧ (W (k + 3) ≠ 5 → vlq W (cvn W nq sm s.1 n) pl 0 0 (k + 3) j = vlq W (cv9 W nq sm s.1) pl 0 0 (k + 3) j ∧ vlq W (cvn W nq sm s.1 n) pl 0 0 (j + 1) i = vlq W (cv9 W nq sm s.1) pl 0 0 (j + 1) i) := by
      rcases bo with ⟨w5, ei, q8, eX⟩ | ⟨w5, q8, j, E0, E1, C0, C1, eo0, w16, eo1, ec0, ec1, eX, rv0, rv1⟩
      · exact ⟨0, fun u => absurd w5 u, by rw [if_pos w5]; exact q8, by rw [if_pos w5]; exact eX, by rw [if_pos w5]; exact ei.symm, fun _ u => by rw [q8] at u; exact absurd u (by first | decide | simp), fun u => absurd w5 u⟩
      · have a0 := eo0.pr.1
        have a1 := eo1.pr.1
        have x0 := ec_1 ec0 ct hl
        have x1 := ec_1 ec1 ct hl
        have eX' : X = fst9 (rf9 W pl sm s.1 1 0 (k + 3) j) (rf9 W pl sm s.1 1 0 (j + 1) i) := by
          rw [eX, x0, x1]
          rfl
        have no9 : ∀ t, k + 3 ≤ t → t < i → W t ≠ 9 := fun t t1 t2 => by
          by_cases c1 : t < j
          · exact eo0.no9 (Or.inl rfl) t1 c1
          · by_cases c2 : t = j
            · rw [c2, w16]; decide
            · exact eo1.no9 (Or.inl rfl) (by omega) t2
        refine ⟨j, fun _ => nxq_at (by omega) (by clear ini; omega) w16 (fun t t1 t2 => eo0.no9 (Or.inr (Or.inl rfl)) t1 t2), by rw [if_neg w5]; exact q8, by rw [if_neg w5]; exact eX', ?_, fun u _ => ?_, fun _ => ⟨cv_eq (by clear ini; omega) eo0, cv_eq (by clear ini; omega) eo1⟩⟩
        · rw [if_neg w5]
          rcases ini with ⟨-, ei, -, -⟩ | ⟨w9, -, E2, C2, eo2, -⟩
          · rw [nxq_no (fun t t1 t2 => no9 t t1 (by omega))]
            omega
          · exact nxq_at (by omega) (by omega) w9 no9
        · rw [eX] at u
          obtain ⟨u0, u1⟩ := fst9_1.mp u
          exact ⟨rw_mk wt h ec0 ct hl tx rv0 eo0 u0, rw_mk wt h ec1 ct hl tx rv1 eo1 u1⟩
    obtain ⟨j, hj, q8, eX, hi9, r01, vlo⟩ := bo'
    clear bo
    have ini' : (mI M1 q 7 = if W i = 9 then 1 else 0) ∧ (I = if W i = 9 then rf9 W pl sm s.1 1 (mI M1 q 8) (i + 1) e else (0, 0)) ∧ (I.1 = 0 → mI M1 q 7 ≠ 0 → rwE W pl (cvn W nq sm s.1 n) q p O P sl 2 (i + 1) e (mI M1 q 8) M1) ∧ (W i = 9 → vlq W (cvn W nq sm s.1 n) pl 0 0 (i + 1) e = vlq W (cv9 W nq sm s.1) pl 0 0 (i + 1) e) := by
      rcases ini with ⟨w9, ei, q7, eI⟩ | ⟨w9, q7, E2, C2, eo2, ec2, eI, rv2⟩
      · exact ⟨by rw [if_neg w9]; exact q7, by rw [if_neg w9]; exact eI, fun _ u => absurd q7 u, fun u => absurd u w9⟩
      · have x2 := ec_1 ec2 ct hl
        refine ⟨by rw [if_pos w9]; exact q7, ?_, fun u _ => ?_, fun _ => cv_eq (by omega) eo2⟩
        · rw [if_pos w9, eI, x2]
          rfl
        · rw [eI] at u
          exact rw_mk wt h ec2 ct hl tx rv2 eo2 u
    obtain ⟨q7, eI, r2, vbe⟩ := ini'
    clear ini
    obtain ⟨p1, p2⟩ := itc_v (W := W) (pl := pl) (nq := nq) (sm := sm) (Nn := Nn) (k := k) (e := e) (s := s) (nV := V) (t8 := mI M1 q 8) (i7 := mI M1 q 7) (lo := vlq W (cvn W nq sm s.1 n) pl 0 0 (k + 3) j) (hi := vlq W (cvn W nq sm s.1 n) pl 0 0 (j + 1) i) (be := vlq W (cvn W nq sm s.1 n) pl 0 0 (i + 1) e) eV V12 kn hi9 hj q8 q7 eX eI (fun u => (vlo u).1) (fun u => (vlo u).2) vbe
    have es := sN_v (pl := pl) (nq := nq) (sm := sm) f0 w4 nx
    rw [← es] at p1 p2
    generalize sN W pl nq sm Nn k s = s' at p1 p2 ⊢
    rw [← hnw] at p2
    have zX : ∀ {A B : Int × Int}, (fst9 (fst9 (fst9 A B) X) I).1 = 0 → X.1 = 0 ∧ I.1 = 0 := fun u => ⟨(fst9_1.mp (fst9_1.mp u).1).2, (fst9_1.mp u).2⟩
    refine (x_TR_settleVar (x0 := k + 3) (y0 := j) (x1 := j + 1) (y1 := i) (x2 := i + 1) (y2 := e) (s := s) (s' := s') (cv := cvn W nq sm s.1 n) (W := W) (pl := pl) hFx h hv h8 h7 hFT (fun _ => cs1) (fun u v => r01 (zX u).1 v) (fun u v => r2 (zX u).2 v) rfl rfl rfl p1 (fun u v => (p2 u).1 v) (fun u v => (p2 u).2 v)).mono (fun M' kk => ⟨kk.1, kk.2.1, kk.2.2.1, fun z => ?_⟩)
    have u := Classical.byContradiction (fun u => u (by have q := p1 u; rw [q] at z; exact z))
    have zz := zX u
    have r01 := r01 zz.1
    have r2 := r2 zz.2
    have s0 := Classical.byContradiction (fun v => v (by have q := (p2 u).1 v; rw [q] at z; exact z))
    have es' := (p2 u).2 s0
    have sz := kk.2.2.2 z
    have ig : igm9 W pl nq sm Nn s.1 k g = (g.1 ++ [var9 W pl nq sm Nn s.1 k e], g.2) := by
      unfold igm9
      rw [if_neg (by omega), if_pos w4, nx]
    have h801 : mI M1 q 8 = 0 ∨ mI M1 q 8 = 1 := hv.2.2.2.2.2.2.2.2.2.2.1
    have vr : var9 W pl nq sm Nn s.1 k e = ((if mI M1 q 8 = 1 then 0 else (vlq W (cvn W nq sm s.1 n) pl 0 0 (k + 3) j).2.1), (if mI M1 q 8 = 1 then 1 else (vlq W (cvn W nq sm s.1 n) pl 0 0 (j + 1) i).2.1), (if mI M1 q 7 = 0 then (if mI M1 q 8 = 1 then 0 else (vlq W (cvn W nq sm s.1 n) pl 0 0 (k + 3) j).2.1) else (vlq W (cvn W nq sm s.1 n) pl 0 0 (i + 1) e).2.1)) := by
      unfold var9
      simp only [hi9]
      by_cases w5 : W (k + 3) = 5
      · rw [if_pos w5] at q8
        simp only [w5, q8, if_true]
        by_cases w9 : W i = 9
        · rw [if_pos w9] at q7
          rw [if_pos w9, if_neg (by rw [q7]; decide), vbe w9]
        · rw [if_neg w9] at q7
          rw [if_neg w9, if_pos q7]
      · rw [if_neg w5] at q8
        have n8 : ¬ mI M1 q 8 = 1 := by omega
        obtain ⟨vl1, vl2⟩ := vlo w5
        rw [if_neg w5, if_neg w5, if_neg n8, if_neg n8, hj w5, vl1, vl2]
        by_cases w9 : W i = 9
        · rw [if_pos w9] at q7
          rw [if_pos w9, if_neg (by rw [q7]; decide), vbe w9]
        · rw [if_neg w9] at q7
          rw [if_neg w9, if_pos q7]
    rw [ig, vr]
    rw [es']
    unfold svN
    rw [hnw]
    have bd := sv9_bd h801 s0 (fun y => ⟨(r01 y).1.gd, (r01 y).2.gd⟩) (fun y => (r2 y).gd)
    exact CGm.var (cg f0) hp0 tx.2.2.2.2.2.1 (tx.2.2.2.2.1 11 (by decide)) (fun t ht => txO t (by rw [hp0]; omega)) sz (by rw [cs.2.2.2.2.2.2.1, eV]) h801 bd.1 bd.2.1 bd.2.2
  · rw [sN_n f0]
    rw [fst9_n f0, fst9_n f0, fst9_n f0, fst9_n f0] at hFT
    exact (x_TR_settleVar (x0 := 0) (y0 := 0) (x1 := 0) (y1 := 0) (x2 := 0) (y2 := 0) (s := s) (s' := s) (cv := cvn W nq sm s.1 n) (W := W) (pl := pl) hFx h hv h8 h7 hFT (fun u => absurd u f0) (fun u => absurd u f0) (fun u => absurd u f0) rfl rfl rfl (fun _ => rfl) (fun u => absurd u f0) (fun u => absurd u f0)).mono (fun M' kk => ⟨kk.1, kk.2.1, kk.2.2.1, fun z => absurd z f0⟩)
end TXY
end
section
/-! The class's reader of texts, exactly: a target and a command as items. -/
section TXZ
variable {G : mG} {d z q w T A B D N C n p O P K Ab Be Cm V F c L cnt a k e i j b Nn : Nat} {M0 M M' M1 M2 : mM} {ns : Nat → Int} {sf ef : Nat → Nat} {W pl nq E : Nat → Int} {Cf : Nat → Int × Int} {sm : Nat → Nat → Prop} {s s' : st9} {ft : Int × Int} {g : gm9} {cnt1 L1 : Nat}
theorem itZ.mk (hF : FT M (q + 1) ft) (h1 : ft.1 ≠ 0 → s'.2.2 = ft) (h2 : ft.1 = 0 → s'.2.2 = (0, 0) ∧ CSm M q p s') : itZ q p s' M := by
  by_cases f0 : ft.1 = 0
  · obtain ⟨e1, e2⟩ := h2 f0
    refine ⟨?_, fun _ => e2⟩
    rw [e1]
    exact FT.zz (by rw [hF.1]; exact f0)
  · exact itZ.bad (by rw [h1 f0]; exact hF) (by rw [h1 f0]; exact f0)
theorem x_st_target (h0 : TX M z q w T A B D N C n p O P K Ab Be Cm V F ns sf ef c cnt L) (zs : itZ q p s M) (w11 : W k = 11) (hNn : n ≤ Nn) (ha : mI M1 (q + 1) 2 = ((a : Nat) : Int)) (han : a ≤ n) (tg : tgV W pl nq sm M q p O P n c L k s.1 (fst9 s.2.2 (if mI M p 11 = -1 then (0, 0) else (4, pl k))) 1 M1) (hp0 : mI M p 2 = ((L : Nat) : Int)) (cg : s.2.2.1 = 0 → CGm M p O P W pl nq sm Nn n s g) : ∃ e, mI M1 (q + 1) 2 = ((e + 1 : Nat) : Int) ∧ Rc W [50] 0 [50] (e + 1) ∧ k ≤ e ∧ nxq W 34 Nn k = e ∧ itZ q p (sN W pl nq sm Nn k s) M1 ∧ ((sN W pl nq sm Nn k s).2.2.1 = 0 → CGm M1 p O P W pl nq sm Nn n (sN W pl nq sm Nn k s) (igm9 W pl nq sm Nn s.1 k g)) := by
  obtain ⟨a', ea', tg⟩ := tg
  obtain ⟨-, p11, e, E, Cf, ae, eo, w34, rc, ec, hFT, tk, td⟩ := tg.resolve_left (fun u => absurd u.1 (by first | decide | simp))
  clear tg
  have een : e + 1 ≤ n := by
    rw [ea', ae] at ha
    omega
  have ne : no34 W k e := ((no34.nil : no34 W k k).sc (by rw [w11]; decide)).eo eo
  have nx : nxq W 34 Nn k = e := nxq_34 ne w34 (by omega)
  refine ⟨e, by rw [← ae]; exact ea', rc, ne.1, nx, ?_⟩
  rw [fst9_as] at hFT
  by_cases f0 : s.2.2.1 = 0
  · have cs := zs.2 f0
    have ct := cs.1
    obtain ⟨hl, eV, eF, eC⟩ := cs.len h0
    have e9 : E = E9 sm s.1 0 := by
      have u := (ec.2 ct hl).1
      rw [if_pos rfl] at u
      exact u
    rw [fst9_zr f0, e9] at hFT
    have et : (if mI M p 11 = -1 then ((0 : Int), (0 : Int)) else (4, pl k)) = if s.2.1.2.2.2 = 0 then (0, 0) else (4, pl k) := by
      by_cases c1 : s.2.1.2.2.2 = 0
      · rw [if_pos c1, if_pos (cs.2.2.2.2.1.mpr c1)]
      · rw [if_neg c1, if_neg (fun u => c1 (cs.2.2.2.2.1.mp u))]
    rw [et] at hFT
    obtain ⟨p1, p2⟩ := itc_t (W := W) (pl := pl) (sm := sm) (k := k) (e := e) (s := s) rfl
    have es := sN_t (pl := pl) (nq := nq) (sm := sm) f0 w11 nx
    rw [es]
    have ig : igm9 W pl nq sm Nn s.1 k g = (g.1, some (k + 1, e), g.2.2) := by
      unfold igm9
      rw [if_neg (by omega), if_neg (by omega), if_pos w11, nx]
    rw [ig]
    refine ⟨itZ.mk hFT p1 (fun u => ?_), fun z => ?_⟩
    rotate_left
    · have u := Classical.byContradiction (fun u => u (by have q := p1 u; rw [q] at z; exact z))
      rw [p2 u]
      have fz := (fst9_1.mp u).2
      rw [e9] at ec
      exact CGm.target (cg f0) hp0 eo (by omega) (ec.lf ct hl (fun i hi => (h0.2.1.2.2.1.2.2 i hi).2.2)) (fst9_1.mp fz).1 td
    rw [p2 u]
    obtain ⟨c1, c2, c3, c4, c5, c6⟩ := cs
    refine ⟨rfl, c1.tg tk, ?_, ?_, ?_, ⟨fun v => absurd v p11, fun v => absurd v (by first | decide | simp)⟩, c6⟩
    · rw [tk.2.2.1 3 (by decide) (by decide)]; exact c2
    · rw [tk.2.2.1 7 (by decide) (by decide)]; exact c3
    · rw [tk.2.2.1 12 (by decide) (by decide)]; exact c4
  · rw [sN_n f0]
    rw [fst9_n f0, fst9_n f0] at hFT
    exact ⟨itZ.bad hFT f0, fun z => absurd z f0⟩
theorem x_st_cmd (h0 : TX M z q w T A B D N C n p O P K Ab Be Cm V F ns sf ef c cnt L) (zs : itZ q p s M) (w7 : W k = 7 ∨ W k = 8) (hNn : n ≤ Nn) (ha : mI M1 (q + 1) 2 = ((a : Nat) : Int)) (han : a ≤ n) (cc : ccV W pl nq sm Nn n V O P L M q p c cnt k s.1 (fst9 s.2.2 (if cnt < 60 then (0, 0) else (5, pl k))) 1 M1) (hp0 : mI M p 2 = ((L : Nat) : Int)) (h1' : TX M1 z q w T A B D N C n p O P K Ab Be Cm V F ns sf ef c cnt1 L1) (cg : s.2.2.1 = 0 → CGm M p O P W pl nq sm Nn n s g) : ∃ e, mI M1 (q + 1) 2 = ((e + 1 : Nat) : Int) ∧ Rc W [50] 0 [50] (e + 1) ∧ k ≤ e ∧ nxq W 34 Nn k = e ∧ itZ q p (sN W pl nq sm Nn k s) M1 ∧ ((sN W pl nq sm Nn k s).2.2.1 = 0 → CGm M1 p O P W pl nq sm Nn n (sN W pl nq sm Nn k s) (igm9 W pl nq sm Nn s.1 k g)) := by
  obtain ⟨a', ea', cc⟩ := cc
  obtain ⟨-, ar, ix, E, hix, eo, w17, hE, a2, ea2, cm⟩ := cc.resolve_left (fun u => absurd u.1 (by first | decide | simp))
  clear cc
  obtain ⟨-, e, fB, ae, w34, ne, rc, hFT, hB, k19, k69, kp, k6, k7, bN, hb8, cr⟩ := cm.resolve_left (fun u => absurd u.1 (by first | decide | simp))
  clear cm
  have een : e + 1 ≤ n := by
    rw [ea2, ae] at ha
    omega
  have nx : nxq W 34 Nn k = e := nxq_34 ne w34 (by
    clear hB
    omega)
  have ale : ar ≤ e := by
    have u := eo.pr.1
    by_cases c : ar ≤ e
    · exact c
    · have v := eo.rw9 (j := e) (by
        have := ne.1
        by_cases c2 : k = e
        · rw [← c2] at w34
          rcases w7 with x | x <;> rw [w34] at x <;> exact absurd x (by first | decide | simp)
        · omega) (by omega)
      unfold rwd at v
      rw [w34] at v
      clear hB
      omega
  have hr : nxq W 17 Nn (k + 1) = ar := nxq_at (Nat.le_of_lt eo.pr.1) (by
    clear hB
    omega) w17 (fun t t1 t2 => eo.no9 (Or.inr (Or.inr rfl)) t1 t2)
  refine ⟨e, by rw [← ae]; exact ea2, rc, ne.1, nx, ?_⟩
  by_cases f0 : s.2.2.1 = 0
  · have cs := zs.2 f0
    have ct := cs.1
    obtain ⟨hl, eV, eF, eC⟩ := cs.len h0
    have c60 : cnt ≤ 60 := h0.2.2.1.2
    have e9 := hE ct hl
    obtain ⟨b1, b2⟩ := hB ct hl
    rw [fst9_zr f0, e9] at hFT
    obtain ⟨p1, p2⟩ := itc_c (W := W) (pl := pl) (sm := sm) (Nn := Nn) (k := k) (e := e) (ar := ar) (s := s) (nC := cnt) (f := vrf W (E9 sm s.1 0) pl 1 (k + 1) ar) (fB := fB) eC c60 hr rfl b1 b2
    have es := sN_c (pl := pl) (nq := nq) (sm := sm) f0 w7 nx
    rw [es]
    have ig : igm9 W pl nq sm Nn s.1 k g = (g.1, g.2.1, g.2.2 ++ [cmd9 W pl sm Nn s.1 k e]) := by
      unfold igm9
      rw [if_neg (by omega), if_neg (by omega), if_neg (by omega), nx]
    rw [ig]
    refine ⟨itZ.mk hFT p1 (fun u => ?_), fun z => ?_⟩
    rotate_left
    · have u := Classical.byContradiction (fun u => u (by have q := p1 u; rw [q] at z; exact z))
      rw [p2 u]
      have z3 : mI M1 (q + 1) 3 = 0 := by rw [hFT.1]; exact u
      exact CGm.cmd (cg f0) hp0 eC (by rw [cs.2.2.2.2.2.2.1, eV]) cr ct hl z3 ne w34 hr (hb8 (fst9_1.mp u).2) (fun v hv => by
        have v9 := (fst9_1.mp (fst9_1.mp u).1).1
        have c6' : cnt < 60 := by
          by_cases c1 : cnt < 60
          · exact c1
          · rw [if_neg c1] at v9
            exact absurd v9 (by first | decide | simp)
        have eix := hix c6'
        obtain ⟨u', hu', pg⟩ := h1'.2.2.2 z3
        obtain ⟨uu, e1, -, e3⟩ := pg.2.2.2.2.2.1
        have a9 := h1'.2.2.1.1
        rw [kp 12 (by decide), if_pos rfl] at a9
        have c1 : cnt1 = cnt + 1 := by omega
        rw [c1, hv] at e1
        omega)
    rw [p2 u]
    have c6' : cnt < 60 := by
      have v := (fst9_1.mp (fst9_1.mp u).1).1
      by_cases c1 : cnt < 60
      · exact c1
      · rw [if_neg c1] at v
        exact absurd v (by first | decide | simp)
    have eix := hix c6'
    obtain ⟨c1, c2, c3, c4, c5, c6⟩ := cs
    refine ⟨rfl, c1.cg k19 (k69 6 (by decide) (by decide)) (k69 7 (by decide) (by decide)) (k69 8 (by decide) (by decide)) (k69 9 (by decide) (by decide)) k6 k7, ?_, ?_, ?_, ?_, c6⟩
    · rw [kp 3 (by decide), if_neg (by decide)]; exact c2
    · rw [kp 7 (by decide), if_neg (by decide)]; exact c3
    · rw [kp 12 (by decide), if_pos rfl]
      show (ix : Int) + 1 = ((s.2.1.2.2.1 + 1 : Nat) : Int)
      clear hB hix c5
      omega
    · rw [kp 11 (by decide), if_neg (by decide)]; exact c5
  · rw [sN_n f0]
    rw [fst9_n f0, fst9_n f0, fst9_n f0] at hFT
    exact ⟨itZ.bad hFT f0, fun z => absurd z f0⟩
end TXZ
end
