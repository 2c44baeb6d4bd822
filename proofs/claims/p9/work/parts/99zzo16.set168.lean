/-! The class's reader of texts, exactly: one set, from behind its name on. -/
section TXQ
variable {G : mG} {d z q w T A B D N C n p O P K Ab Be Cm V F c s L cnt a s9 S0 k i k0 Nn : Nat} {M0 M M' M1 M2 : mM} {ns : Nat → Int} {sf ef : Nat → Nat} {W pl nq : Nat → Int} {sm : Nat → Nat → Prop} {nms : List nm9} {ft fS : Int × Int}
theorem kft_kd {tr : Int} {E : Nat → Int} {x y : Nat} (l1 : Int) (ht : tr = 0 ∨ tr = 1) (hl : l1 = if tr = 0 then 1 else 2) : (l1 = 0 ∨ kdq W E 0 x y = (if l1 = 2 then 1 else 0)) ↔ kdq W E 0 x y = tr := by
  rcases ht with u | u
  · rw [u, if_pos rfl] at hl
    rw [hl, u]
    simp
  · rw [u, if_neg (by decide)] at hl
    rw [hl, u]
    simp
theorem hz37 : ∀ j, lwx (W j) = 3 → Rf W [37, 75, 60, 57, 34, 50] j j := fun j hj => Rf.of (mst_tn (by decide) (fun u => by
  rw [← u] at hj
  exact absurd hj (by first | decide | simp)))
theorem rc60 {zr : List Int} (h : W a ≠ 29) : Rc W (60 :: zr) a zr a := Rc.one (mst_n (by decide) (by decide) (ys := []) (t := 0) (by
  show ex60 (W a) = _
  unfold ex60
  rw [if_neg h]) (Or.inl (by decide)))
theorem rc60m {zr : List Int} (h : W a = 29) : Rc W (60 :: zr) a (59 :: 60 :: zr) (a + 1) := Rc.one (mst_n (by decide) (by decide) (ys := [59, 60]) (t := 1) (by
  show ex60 (W a) = _
  unfold ex60
  rw [if_pos h]) (Or.inl (by decide)))
theorem i43_ {l4 l6 : Int} {V : Nat} (b4 : 0 ≤ l4 ∧ l4 ≤ 16384) (h6 : l6 = -1 ∨ (0 ≤ l6 ∧ l6 < V)) (hV : V ≤ 16384) : i32 ((l4 * 16) + (if l6 < 0 then 0 else l6)) := by
  split <;> exact ⟨by omega, by omega⟩
theorem x_rs168 {l2 l3 l4 l6 : Int} (i2 : i32 l2) (i3 : i32 l3) (b4 : 0 ≤ l4 ∧ l4 ≤ 16384) (h6 : l6 = -1 ∨ (0 ≤ l6 ∧ l6 < V)) (e4 : l4 = pl k) (w10 : W k0 ≠ 10) (sl : seL W pl nq sm Nn n V M0 q p O P c k0 S0 nms i k M) (hw : k + 1 < n ∧ mI M A (k + 1) = 2) (h : rsI M0 z q w T A B D N C n p O P K Ab Be Cm V F ns sf ef c cnt L S0 (k + 2) s9 M) (hf : l6 = -1 → mI M (q + 1) 3 ≠ 0) (wt : WTq M T A B D n W pl nq sm) (hFT : FT M (q + 1) (fst9 ft fS)) (w1 : W (k + 1) = 1) (sn : seN W pl sm Nn M0 q p c k0 nms fS l2 l6 i k) (hR : Rc W [50] 0 [38, 23, 61, 37, 75, 60, 57, 34, 50] (k + 2)) (hik : i ≤ k) (hNn : n ≤ Nn) (tn0 : TN M0 (q + 1) A n V F ns c) (n4 : no34 W k0 (k + 2)) (nx : ∀ (M1 : mM) (l1 l2 : Int) (a' s' : Nat), i32 l1 → i32 l2 → rsI M0 z q w T A B D N C n p O P K Ab Be Cm V F ns sf ef c cnt L S0 a' s' M1 → rsJ T A B D n V O P S0 W pl nq sm Nn M0 q p c k0 nms ft (seP W pl sm Nn M0 q p c k0 nms) l1 l2 (i + 1) a' M1 → h_TR_readSets_22 G (d + 5) q l1 l2 (l3 + 1) M1 (fun x M' => rsQ9 M0 z q w T A B D N C n p O P K Ab Be Cm V F ns sf ef c cnt L S0 x M' ∧ rsV W q ft (seP W pl sm Nn M0 q p c k0 nms) (seE W pl nq sm Nn n V M0 q p O P c k0 S0 nms) x M')) : h_TR_readSets_168 G (d + 5) q l2 l3 l4 ((k + 1 : Nat) : Int) l6 M (fun x M' => rsQ9 M0 z q w T A B D N C n p O P K Ab Be Cm V F ns sf ef c cnt L S0 x M' ∧ rsV W q ft (seP W pl sm Nn M0 q p c k0 nms) (seE W pl nq sm Nn n V M0 q p O P c k0 S0 nms) x M') := by
  obtain ⟨h1, f1, a1, a2, p1, p2, p3, d1, c1, sc, hL⟩ := h
  obtain ⟨⟨np0, np1, -, -⟩, ⟨nO0, nO1, -, -, nOp⟩, nP0, nP1, -, -, nPp⟩ := h1.1.ne
  obtain ⟨q01, q10, q210, q211, -⟩ := q_ne q
  have hV := h1.2.1.1.2
  have hN : n ≤ 16384 := by have := h1.1.1.2.2.2.1.2.2.1; have := h1.1.1.2.2.2.1.1.2.2.2.2.2.2.1; omega
  obtain ⟨t0, t1, t2, t3, t4, t5⟩ := h1.1.2.1
  refine k_TR_readSets_168 h1.1.1.1 i2 i3 (i32s (by omega) (by omega)) (i32s (by omega) (by omega)) (i32s (by omega) (by omega)) (fun v73 e73 => ?_)
  have i73 : i32 (orI l2 v73) := m_i32 _
  rw [t1, d1]
  refine ⟨t0, h1.1.1.2.1.1, ⟨by decide, by decide⟩, fun M80 e80 => ?_⟩
  obtain ⟨h80, x80, g80⟩ := tx_ui h1 ⟨by decide, by decide⟩ e80 (Or.inr (Or.inr (Or.inr (Or.inl ⟨rfl, Or.inr (Or.inl rfl)⟩))))
  have f80 : txF M0 q p O P S0 M80 := f1.trans ⟨x80.1, x80.2.1, x80.2.2.1, x80.2.2.2.1, x80.2.2.2.2.1, x80.2.2.2.2.2.1, fun i _ => ⟨by rw [g80, if_neg (fun u => nO1 u.1)], by rw [g80, if_neg (fun u => nP1 u.1)]⟩⟩
  have r80 : ∀ i, i ≠ 5 → mI M80 (q + 1) i = mI M (q + 1) i := fun i hi => by rw [g80, if_neg (fun u => hi u.2)]
  have b80 : ∀ b, b ≠ q + 1 → mI M80 b = mI M b := fun b hb => by
    funext i
    rw [g80, if_neg (fun u => hb u.1)]
  have d80 : mI M80 (q + 1) 5 = ((1 : Nat) : Int) := by rw [g80, if_pos ⟨rfl, rfl⟩]; rfl
  have a80 : mI M80 (q + 1) 2 = ((k + 2 : Nat) : Int) := by rw [r80 2 (by decide)]; exact a1
  have wt80 : WTq M80 T A B D n W pl nq sm := wt.fi h1.1 x80.1
  rw [h80.1.2.1.2.1]
  refine ⟨h80.1.1.2.1.1, (x_tx_accept (x := 39) (i32s (by omega) (by omega)) (by omega) h80 a80 a2).mono (fun x84 M83 kk => ?_)⟩
  obtain ⟨i84, o83, -, h83, x83, k83, r83, b83, m83⟩ := kk
  have f83 : txF M0 q p O P S0 M83 := f80.trans ⟨x83.1, x83.2.1, x83.2.2.1, x83.2.2.2.1, x83.2.2.2.2.1, x83.2.2.2.2.2.1, fun i _ => ⟨by rw [b83 O nO1], by rw [b83 P nP1]⟩⟩
  refine ⟨i84, o83, fun y => ?_, fun y => ?_⟩
  · rw [(k83.resolve_left (fun u => by rw [y] at u; exact absurd u.1 (by first | decide | simp))).2]
    exact ⟨⟨f80, Or.inl ⟨rfl, h80, k + 2, a80, a2⟩⟩, k + 2, a80, Or.inl ⟨rfl, rf_t hR (fun u => m83 y ((wt80.is a2 (by decide) (by decide)).mpr u)) (by decide)⟩⟩
  obtain ⟨-, e38, a83, an83⟩ := k83.resolve_right (fun u => y u.1)
  clear k83
  have rc3 : Rc W [50] 0 [23, 61, 37, 75, 60, 57, 34, 50] (k + 3) := rc_t hR ((wt80.is a2 (by decide) (by decide)).mp e38) (by decide)
  have wt83 : WTq M83 T A B D n W pl nq sm := wt80.fi h80.1 x83.1
  rw [h83.1.2.1.2.1]
  refine ⟨h83.1.2.1.1, h83.1.1.2.1.1, (x_tx_accept (x := 24) (i32s (by omega) (by omega)) (by omega) h83 a83 an83).mono (fun x91 M90 kk => ?_)⟩
  obtain ⟨i91, o90, -, h90, x90, k90, r90, b90, m90⟩ := kk
  have f90 : txF M0 q p O P S0 M90 := f83.trans ⟨x90.1, x90.2.1, x90.2.2.1, x90.2.2.2.1, x90.2.2.2.2.1, x90.2.2.2.2.2.1, fun i _ => ⟨by rw [b90 O nO1], by rw [b90 P nP1]⟩⟩
  refine ⟨i91, o90, fun y => ?_, fun y => ?_⟩
  · rw [(k90.resolve_left (fun u => by rw [y] at u; exact absurd u.1 (by first | decide | simp))).2]
    exact ⟨⟨f83, Or.inl ⟨rfl, h83, k + 3, a83, an83⟩⟩, k + 3, a83, Or.inl ⟨rfl, rf_t rc3 (fun u => m90 y ((wt83.is an83 (by decide) (by decide)).mpr u)) (by decide)⟩⟩
  obtain ⟨-, e23, a90, an90⟩ := k90.resolve_right (fun u => y u.1)
  clear k90
  have rc4 : Rc W [50] 0 [61, 37, 75, 60, 57, 34, 50] (k + 4) := rc_t rc3 ((wt83.is an83 (by decide) (by decide)).mp e23) (by decide)
  have wt90 : WTq M90 T A B D n W pl nq sm := wt83.fi h83.1 x90.1
  have A90 : mI M90 A (k + 1) = 2 := by rw [(h83.1.words x90.1).1, (h80.1.words x83.1).1, (h1.1.words x80.1).1]; exact hw.2
  have p90 : mI M90 p 2 = ((s9 : Nat) : Int) := by rw [b90 p np1, b83 p np1, b80 p np1]; exact p1
  have d90 : mI M90 (q + 1) 5 = ((1 : Nat) : Int) := by rw [r90 5 (by decide), r83 5 (by decide)]; exact d80
  have c90 : mI M90 (q + 1) 6 = 0 := by rw [r90 6 (by decide), r83 6 (by decide), r80 6 (by decide)]; exact c1
  have l90 : mI M90 (q + 1) 3 = mI M (q + 1) 3 := by rw [r90 3 (by decide), r83 3 (by decide), r80 3 (by decide)]
  have F90 : FT M90 (q + 1) (fst9 ft fS) := hFT.same l90 (by rw [r90 4 (by decide), r83 4 (by decide), r80 4 (by decide)])
  have sc90 : mI M (q + 1) 3 = 0 → scI M90 O P V F ns S0 s9 := fun y => (sc y).cg (fun i _ => ⟨by rw [b90 O nO1, b83 O nO1, b80 O nO1], by rw [b90 P nP1, b83 P nP1, b80 P nP1]⟩)
  have n5 : no34 W k0 (k + 4) := (n4.sc (by rw [(wt80.is (y := 38) a2 (by decide) (by decide)).mp e38]; decide)).sc (by rw [(wt83.is (y := 23) an83 (by decide) (by decide)).mp e23]; decide)
  have pM := p1
  have oo9 : ∀ t, mI M90 O t = mI M O t ∧ mI M90 P t = mI M P t := fun t => by rw [b90 O nO1, b83 O nO1, b80 O nO1, b90 P nP1, b83 P nP1, b80 P nP1]; exact ⟨rfl, rfl⟩
  clear x80 g80 r80 b80 d80 a80 f80 f83 r83 b83 r90 b90 x83 x90 h80 sc a1 p1 d1 c1 f1 m83 m90 wt80 wt83 wt hFT hR rc3
  rw [h90.1.2.1.2.1]
  refine ⟨h90.1.2.1.1, h90.1.1.2.1.1, (x_RR_kindOf h90.1.1 h90.2.1.2.2.1.nk hw.1 A90).mono (fun x98 M97 kk => ?_)⟩
  obtain ⟨e97, ⟨x980, x981⟩, x982⟩ := kk
  subst e97
  have x982 : Hid ((nmn M97 (q + 1) T B D c (k + 1) ∧ x98 = 0) ∨ ∃ i : Nat, fm M97 (q + 1) T B D c (k + 1) i ∧ x98 = if mI M97 (q + 1 + 9) i = 0 then 1 else 2) := x982
  have hw97 : ∀ i, i < c → ∃ v : Nat, mI M97 (q + 1 + 6) i = v ∧ v < n ∧ mI M97 A v = 2 := fun i hi => (h90.2.1.2.2.1.2.2 i hi).1
  have k01 : ∀ i, i < c → mI M97 (q + 1 + 9) i = 0 ∨ mI M97 (q + 1 + 9) i = 1 := fun i hi => (h90.2.1.2.2.1.2.2 i hi).2.2
  obtain ⟨E, Cf, uq, big, ec⟩ := uq_ex (p := p) (nms := nms) (c := c) wt90 hw97 c90
  have lf9 : CT M97 (q + 1) p nms → nms.length = c → LfC W nq sm n nms Cf := fun ct hl => ECq.lf (c := c) (E := E) (M := M97) (r := q + 1) (p := p) ⟨big, ec⟩ ct hl k01
  have ec : CT M97 (q + 1) p nms → nms.length = c → E = E9 sm nms 0 := fun ct hl => (ec ct hl).1
  refine ⟨i32s (by omega) (by omega), o90, h90.1.1.2.1.1, (x_tx_rule (u := (W, E, pl, Cf, (k + 4, fst9 ft fS), ([37, 75, 60, 57, 34, 50], 6), ([50], 0))) (d0 := 1) (i32s (by omega) (by omega)) (i32s (by omega) (by omega)) h90 a90 (by omega) p90 (by omega) (by omega) d90 (by omega) h90.2.1.2.2.1.nk (uq _) rfl F90 (by rw [d90]; rfl) ⟨fun y => absurd y (by first | decide | simp), fun _ => rfl⟩ hz37 rc4).mono (fun x102 M101 kk => ?_)⟩
  obtain ⟨i102, o101, ⟨h101, x101, ⟨c101, -⟩, k101⟩, a9, ea9, rv⟩ := kk
  have f101 : txF M0 q p O P S0 M101 := f90.trans (x101.less p2)
  refine ⟨i102, o101, fun y => ?_, fun y => ?_⟩
  · obtain ⟨-, u⟩ := k101.resolve_right (fun u => by rw [y] at u; exact absurd u.1 (by first | decide | simp))
    refine ⟨⟨f101, Or.inl ⟨rfl, h101, u⟩⟩, a9, ea9, Or.inl ⟨rfl, ?_⟩⟩
    rcases rv with ⟨-, rv⟩ | ⟨rv, -⟩
    · exact rv
    · exact absurd y (by rw [rv]; decide)
  obtain ⟨-, e, H1, a', u1, u2, u3, u4, u5, u6, u7, u8, u9, u10⟩ := k101.resolve_left (fun u => y u.1)
  clear k101
  have ea' : a' = a9 := by
    rw [u6] at ea9
    clear rv nx sc90 u1
    omega
  obtain ⟨L9, g1, g2, g3, g4, g5, g6, g7⟩ : rlD (W, E, pl, Cf, (k + 4, fst9 ft fS), ([37, 75, 60, 57, 34, 50], 6), ([50], 0)) (q + 1) p O P s9 a9 _ M101 := (rv.resolve_left (fun u => y u.1)).2
  clear rv
  subst ea'
  have g2 : Eo W 6 (k + 4) a' := g2
  have g7 : Rc W [50] 0 [37, 75, 60, 57, 34, 50] a' := g7
  have g4 : FT M101 (q + 1) (fst9 (fst9 (fst9 ft fS) (fl W E pl 0 (k + 4) a')) (kft (x98 = 0 ∨ kdq W E 0 (k + 4) a' = (if x98 = 2 then 1 else 0)) (pl (k + 4)))) := g4
  obtain ⟨vr, hvr⟩ : ∃ vr, vr = fst9 (fl W E pl 0 (k + 4) a') (kft (x98 = 0 ∨ kdq W E 0 (k + 4) a' = (if x98 = 2 then 1 else 0)) (pl (k + 4))) := ⟨_, rfl⟩
  rw [fst9_as, fst9_as, ← hvr] at g4
  have vr9 : CT M0 (q + 1) p nms → nms.length = c → ∀ e, fnd9 sm nms (k + 1) = some e → vr = rf9 W pl sm nms 0 e.2.2.1 (k + 4) a' := fun ct hl e fe => by
    have ct9 := ct.tx f90.2
    have eE := ec ct9 hl
    rcases ct9.fnd wt90 (by rw [hl]; exact hw97) hw.1 w1 with ⟨-, z2⟩ | ⟨j, e', z1, z2, z3, -⟩
    · rw [fe] at z2
      exact absurd z2 (by simp)
    · rw [fe] at z3
      have ee : e = e' := Option.some.inj z3
      subst ee
      rw [hl] at z1
      have xe : x98 = if e.2.2.1 = 0 then 1 else 2 := by
        rcases x982 with v | ⟨j', v1, v2⟩
        · exact absurd z1.2.1 (v.1 j z1.1)
        · rw [← fm_un z1 v1, (ct9.2 j e z2).2.2.2.1] at v2
          exact v2
      have e01 : e.2.2.1 = 0 ∨ e.2.2.1 = 1 := by
        rw [← (ct9.2 j e z2).2.2.2.1]
        exact k01 j z1.1
      rw [hvr, propext (kft_kd x98 e01 xe), eE]
      rfl
  have wt101 : WTq M101 T A B D n W pl nq sm := wt90.fi h90.1 x101.1
  have g5 : Cd W Cf pl (mI M101 O) (mI M101 P) 0 0 0 (k + 4) a' s9 L9 := g5
  have eL9 : e = L9 := by rw [u5] at g1; omega
  subst eL9
  clear g1 g3 g6 ec uq x982 hw97 k01 hvr
  rw [h101.1.2.1.2.1]
  refine ⟨h101.1.2.1.1, h101.1.1.2.1.1, (x_tx_accept (x := 38) (i32s (by omega) (by omega)) (by omega) h101 u6 u8).mono (fun x109 M108 kk => ?_)⟩
  obtain ⟨i109, o108, -, h108, x108, k108, r108, b108, m108⟩ := kk
  refine ⟨i109, o108, fun y => ?_, fun y => ?_⟩
  · rw [(k108.resolve_left (fun u => by rw [y] at u; exact absurd u.1 (by first | decide | simp))).2]
    exact ⟨⟨f101, Or.inl ⟨rfl, h101, a', u6, u8⟩⟩, a', u6, Or.inl ⟨rfl, rf_t g7 (fun u => m108 y ((wt101.is u8 (by decide) (by decide)).mpr u)) (by decide)⟩⟩
  obtain ⟨-, e37, a108, an108⟩ := k108.resolve_right (fun u => y u.1)
  clear k108
  have w37 : W a' = 37 := (wt101.is u8 (by decide) (by decide)).mp e37
  have n6 : no34 W k0 (a' + 1) := (n5.eo g2).sc (by rw [w37]; decide)
  have rc6 : Rc W [50] 0 [60, 57, 34, 50] (a' + 1) := (rc_t g7 w37 (by decide)).trans (Rc.zero mst_75)
  have wt108 : WTq M108 T A B D n W pl nq sm := wt101.fi h101.1 x108.1
  have d108 : mI M108 (q + 1) 5 = 1 := by rw [r108 5 (by decide), u10]; exact d90
  rw [h108.1.2.1.2.1, d108]
  refine ⟨h108.1.2.1.1, h108.1.1.2.1.1, ⟨by decide, by decide⟩, fun M116 e116 => ?_⟩
  obtain ⟨h116, x116, g116⟩ := tx_ui h108 ⟨by decide, by decide⟩ e116 (Or.inr (Or.inr (Or.inr (Or.inl ⟨rfl, Or.inr (Or.inl rfl)⟩))))
  have b116 : ∀ b, b ≠ q + 1 → mI M116 b = mI M101 b := fun b hb => by
    rw [← b108 b hb]
    funext i
    rw [g116, if_neg (fun u => hb u.1)]
  have r116 : ∀ i, i ≠ 5 → i ≠ 2 → mI M116 (q + 1) i = mI M101 (q + 1) i := fun i hi hj => by rw [g116, if_neg (fun u => hi u.2), r108 i hj]
  have a116 : mI M116 (q + 1) 2 = ((a' + 1 : Nat) : Int) := by rw [g116, if_neg (fun u => absurd u.2 (by first | decide | simp))]; exact a108
  have d116 : mI M116 (q + 1) 5 = 0 := by rw [g116, if_pos ⟨rfl, rfl⟩]; rfl
  have xx : txF M101 q p O P S0 M116 := by
    have u := x108.trans x116
    exact ⟨u.1, u.2.1, u.2.2.1, u.2.2.2.1, u.2.2.2.2.1, u.2.2.2.2.2.1, fun i _ => ⟨by rw [b116 O nO1], by rw [b116 P nP1]⟩⟩
  have f116 := f101.trans xx
  have wt116 : WTq M116 T A B D n W pl nq sm := wt108.fi h108.1 x116.1
  have p116 : mI M116 p 2 = ((e : Nat) : Int) := by rw [b116 p np1]; exact u5
  rw [h116.1.2.1.2.2.2.1]
  have i43 : i32 ((l4 * 16) + (if l6 < 0 then 0 else l6)) := by
    exact i43_ b4 h6 (Nat.le_trans hV (by decide))
  refine ⟨h116.1.1.2.2.2.2.1.1, (s_tx_add (i32s (by omega) (by omega)) i43 h116 p116 (by omega) (by omega)).mono (fun v M119 kk => ?_)⟩
  obtain ⟨v1, v2, v3, v4, v5, v6, v7, v8⟩ := kk
  have e1 := v8 (q + 1) np1.symm nO1.symm nP1.symm
  have f119 := f116.trans (v4.less (show S0 ≤ e by omega))
  have wt119 : WTq M119 T A B D n W pl nq sm := wt116.fi h116.1 v4.1
  rw [v3.1.2.1.2.1]
  refine ⟨v1, v2, v3.1.2.1.1, v3.1.1.2.1.1, (x_tx_accept (x := 30) (a := a' + 1) (i32s (by omega) (by omega)) (by omega) v3 (by rw [e1]; exact a116) an108).mono (fun x125 M124 kk => ?_)⟩
  obtain ⟨i125, o124, -, h124, x124, k124, r124, b124, m124⟩ := kk
  have f124 : txF M0 q p O P S0 M124 := f119.trans ⟨x124.1, x124.2.1, x124.2.2.1, x124.2.2.2.1, x124.2.2.2.2.1, x124.2.2.2.2.2.1, fun i _ => ⟨by rw [b124 O nO1], by rw [b124 P nP1]⟩⟩
  have sc124 : mI M124 (q + 1) 3 = 0 → scI M124 O P V F ns S0 (e + 1) := fun y => by
    rw [r124 3 (by decide), e1, r116 3 (by decide) (by decide)] at y
    have y90 : mI M (q + 1) 3 = 0 := by
      rw [← l90]
      exact Classical.byContradiction (fun u => x101.2.2.1 u y)
    have y6 : 0 ≤ l6 ∧ l6 < V := h6.resolve_left (fun u => hf u y90)
    have s1 : scI M101 O P V F ns S0 s9 := (sc90 y90).cg (fun i hi => x101.2.2.2.2.2.2 i hi)
    refine s1.set (x := (l4 * 16) + (if l6 < 0 then 0 else l6)) u1 u2 u3 u4 (fun i => ?_) (fun i => ?_) ?_
    · rw [b124 O nO1, v6, b116 O nO1]
    · rw [b124 P nP1, v7, b116 P nP1]
    · rw [if_neg (by omega)]
      clear h1 h83 h90 h101 h108 h116 nx sc90 u1 s1
      exact ⟨by omega, by omega, by omega⟩
  have p124 : mI M124 p 2 = ((e + 1 : Nat) : Int) := by rw [b124 p np1]; exact v5
  have d124 : mI M124 (q + 1) 5 = 0 := by rw [r124 5 (by decide), e1]; exact d116
  have c124 : mI M124 (q + 1) 6 = 0 := by rw [r124 6 (by decide), e1, r116 6 (by decide) (by decide), c101]; exact c90
  have wt124 : WTq M124 T A B D n W pl nq sm := wt119.fi v3.1 x124.1
  have F124 : FT M124 (q + 1) (fst9 ft (fst9 fS vr)) := g4.same (by rw [r124 3 (by decide), e1, r116 3 (by decide) (by decide)]) (by rw [r124 4 (by decide), e1, r116 4 (by decide) (by decide)])
  have an1 : a' < n := by omega
  obtain ⟨nx1, nx2⟩ := sn.next hik hNn (show k < n by omega) tn0 hV g2 w37 an1 vr9
  have O124 : ∀ t, mI M124 O t = (if t = e then 43 else mI M101 O t) ∧ mI M124 P t = (if t = e then (l4 * 16) + (if l6 < 0 then 0 else l6) else mI M101 P t) := fun t => by rw [b124 O nO1, b124 P nP1, v6, v7, b116 O nO1, b116 P nP1]; exact ⟨rfl, rfl⟩
  have y124 : mI M124 (q + 1) 3 = 0 → mI M101 (q + 1) 3 = 0 := fun u => by rw [r124 3 (by decide), e1, r116 3 (by decide) (by decide)] at u; exact u
  have s9L : s9 < e := g5.lt
  obtain ⟨ml1, ml2⟩ := sl.next (M' := M124) (Cf := Cf) (s9 := s9) (e9 := e) (a' := a') (fun u => by
      rw [← l90]
      exact Classical.byContradiction (fun v => x101.2.2.1 v (y124 u))) pM p124 (fun t ht => by
      rw [(O124 t).1, (O124 t).2, if_neg (by omega), if_neg (by omega), (x101.2.2.2.2.2.2 t ht).1, (x101.2.2.2.2.2.2 t ht).2]
      exact oo9 t) (show i < Nn by omega) w10 (cpq_at g2 w37 (by omega)) (fun ct hl y => by
      have ft0 := F124.1.symm.trans y
      obtain ⟨-, fz⟩ := fst9_1.mp ft0
      obtain ⟨f0, vz⟩ := fst9_1.mp fz
      obtain ⟨l, seen, j, e', -, -, -, -, fe, -, e3, -, -, e7⟩ := (sn ct hl).2 f0
      have ev := vr9 ct hl e' fe
      rw [ev] at vz
      have fl0 : (fl W (E9 sm nms 0) pl 0 (k + 4) a').1 = 0 := (fst9_1.mp vz).1
      have l60 : 0 ≤ l6 ∧ l6 < V := h6.resolve_left (fun u => by rw [u] at e7; omega)
      refine ⟨lf9 (ct.tx f90.2) hl, g5.cg (fun t _ t2 => by rw [(O124 t).1, (O124 t).2, if_neg (by omega), if_neg (by omega)]; exact ⟨rfl, rfl⟩), by rw [(O124 _).1, if_pos rfl], ?_, g2, by omega, fl0, ?_, ?_⟩
      · rw [(O124 _).2, if_pos rfl, if_neg (by omega), e4, e7]
      · show vix9 sm nms (k + 1) < V
        omega
      · show 0 ≤ pl k ∧ pl k ≤ 16384
        rw [← e4]
        exact b4)
  have le1 : i + 1 ≤ a' + 1 + 1 := by
    clear nx sc90 u1 nx1 nx2
    omega
  refine ⟨i125, o124, ?_⟩
  rw [e73]
  rw [e73] at i73
  rcases k124 with ⟨ex, e30, a124, an124⟩ | ⟨ex, e2⟩
  · have w29 : W (a' + 1) = 29 := (wt119.is an108 (by decide) (by decide)).mp e30
    exact nx M124 x125 _ (a' + 1 + 1) (e + 1) i125 i73 ⟨h124, f124, a124, an124, p124, by omega, by omega, d124, c124, sc124, hL⟩ ⟨wt124, fst9 fS vr, F124, Or.inl ⟨by rw [ex]; decide, le1, rc6.trans (rc60m w29), nx1 w29, n6.sc (by rw [w29]; decide), ml1 w29⟩⟩
  · have w29 : W (a' + 1) ≠ 29 := fun u => m124 ex ((wt119.is an108 (by decide) (by decide)).mpr u)
    exact nx M124 x125 _ (a' + 1) (e + 1) i125 i73 ⟨h124, f124, by rw [e2, e1]; exact a116, an108, p124, by omega, by omega, d124, c124, sc124, hL⟩ ⟨wt124, fst9 fS vr, F124, Or.inr ⟨ex, rc6.trans (rc60 w29), ⟨nx2 w29, n6⟩, ml2 w29⟩⟩
end TXQ
