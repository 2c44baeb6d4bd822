section
/-! The class's reader of texts, exactly: a command's branches. -/
section TXT
variable {G : mG} {d z q w T A B D N C n p O P K Ab Be Cm V F c s L L' cnt a a2 j k e ix nbr i b f ar Nn : Nat} {M0 M M' M1 M2 Mc Mc' : mM} {ns : Nat → Int} {sf ef : Nat → Nat} {W pl nq E : Nat → Int} {sm : Nat → Nat → Prop} {nms : List nm9} {ft fB fS : Int × Int} {zr : List Int}
theorem rc56 : Rc W (56 :: zr) a (63 :: 33 :: 58 :: zr) a := Rc.one (mst_n (by decide) (by decide) (ys := [63, 33, 58]) (t := 0) rfl (Or.inl (by decide)))
theorem rc57 (h : W a ≠ 24) : Rc W (57 :: zr) a zr a := Rc.one (mst_n (by decide) (by decide) (ys := []) (t := 0) (by
  show ex57 (W a) = _
  unfold ex57
  rw [if_neg h]) (Or.inl (by decide)))
theorem rc57m (h : W a = 24) : Rc W (57 :: zr) a (56 :: 57 :: zr) (a + 1) := Rc.one (mst_n (by decide) (by decide) (ys := [56, 57]) (t := 1) (by
  show ex57 (W a) = _
  unfold ex57
  rw [if_pos h]) (Or.inl (by decide)))
theorem brfc_e (hpe : e ≤ a) : brf W pl sm Nn nms e f a b = (0, 0) := by
  cases f with
  | zero => rfl
  | succ f => rw [brf, if_pos hpe]
/-- b branches have been read, their fault is fB, the next begins at i; the command begins at k, its arrow stands at ar -/
def brK (W pl : Nat → Int) (sm : Nat → Nat → Prop) (Nn : Nat) (Mc : mM) (q p c k ar : Nat) (nms : List nm9) (fB : Int × Int) (i b : Nat) : Prop := CT Mc (q + 1) p nms → nms.length = c → ∀ e, no34 W k e → W e = 34 → (fB.1 ≠ 0 → brf W pl sm Nn nms e Nn (ar + 1) 0 = fB) ∧ (fB.1 = 0 → brf W pl sm Nn nms e Nn (ar + 1) 0 = brf W pl sm Nn nms e (Nn - b) i b)
theorem rsX.to (h : rsX W pl sm Nn Mc' q p c k nms fS a) (hc : CT Mc (q + 1) p nms → CT Mc' (q + 1) p nms) : rsX W pl sm Nn Mc q p c k nms fS a := h.imp (fun u => u) (fun u => ⟨u.1, fun ct hl => u.2.1 (hc ct) hl, u.2.2⟩)
theorem rsX.no {k0 : Nat} (h : rsX W pl sm Nn Mc q p c k nms fS a) (n4 : no34 W k0 k) : no34 W k0 a ∧ k ≤ a := by
  rcases h with ⟨w10, -, ea⟩ | ⟨-, -, g⟩
  · subst ea
    exact ⟨n4.sc (by rw [w10]; decide), Nat.le_succ k⟩
  · exact ⟨n4.join g, g.1⟩
theorem brK.step (h : brK W pl sm Nn Mc q p c k ar nms fB a i) (hb8 : fB.1 = 0 → i ≤ 8) (hia : i ≤ a) (hka : k + 1 ≤ a) (n4 : no34 W k a) (hNn : n ≤ Nn) (eo : Eo W 6 a j) (w33 : W j = 33) (jn : j < n) (hE : CT Mc (q + 1) p nms → nms.length = c → E = E9 sm nms 0) (rx : rsX W pl sm Nn Mc q p c (j + 1) nms fS a2) : brK W pl sm Nn Mc q p c k ar nms (fst9 (fst9 (fst9 fB (if 8 ≤ i then (5, pl a) else (0, 0))) (vrf W E pl 0 a j)) fS) (a2 + 1) (i + 1) := fun ct hl e ne we => by
  obtain ⟨h1, h2⟩ := h ct hl e ne we
  have aj := eo.pr.1
  by_cases f0 : fB.1 = 0
  · have hb := h2 f0
    have i8 := hb8 f0
    obtain ⟨f, hf⟩ : ∃ f, Nn - i = f + 1 := ⟨Nn - i - 1, by omega⟩
    have hf2 : Nn - (i + 1) = f := by omega
    have ea : ¬ e ≤ a := fun u => by
      by_cases v : e = a
      · have y := eo.rw9 (j := a) (Nat.le_refl _) aj
        rw [← v, we] at y
        unfold rwd at y
        omega
      · exact n4.2 e ne.1 (by omega) we
    have hq : clq W (a - 1) Nn = j := clq_eo (by rw [show a - 1 + 1 = a by omega]; exact eo) w33 (by omega)
    have ev : vrf W E pl 0 a j = rf9 W pl sm nms 0 0 a j := by
      rw [hE ct hl]
      rfl
    rw [hf, brf, if_neg ea, hq, ← ev] at hb
    rw [fst9_zr f0, hf2]
    by_cases b8 : i = 8
    · rw [if_pos b8] at hb
      rw [if_pos (by omega), fst9_n (show ((5 : Int), pl a).1 ≠ 0 by simp), fst9_n (show ((5 : Int), pl a).1 ≠ 0 by simp)]
      exact ⟨fun _ => hb, fun u => absurd u (by first | decide | simp)⟩
    · rw [if_neg b8] at hb
      rw [if_neg (by omega), fst9_0]
      by_cases v0 : (vrf W E pl 0 a j).1 = 0
      · rw [if_neg (fun u => u v0)] at hb
        rw [fst9_zr v0]
        rcases rx with ⟨w10, fs0, ea2⟩ | ⟨w10, so, -⟩
        · rw [if_pos w10] at hb
          rw [fs0, ea2]
          exact ⟨fun u => absurd rfl u, fun _ => hb⟩
        · rw [if_neg w10] at hb
          obtain ⟨g1, g2⟩ := so ct hl
          by_cases s0 : fS.1 = 0
          · obtain ⟨s1, s2⟩ := g2 s0
            have s1 : (sef W pl sm Nn nms Nn (j + 1) []).1.1 = 0 := s1
            have s2 : a2 = (sef W pl sm Nn nms Nn (j + 1) []).2 := s2
            rw [if_neg (fun u => u s1), ← s2] at hb
            exact ⟨fun u => absurd s0 u, fun _ => hb⟩
          · have s1 : (sef W pl sm Nn nms Nn (j + 1) []).1 = fS := g1 s0
            rw [s1, if_pos s0] at hb
            exact ⟨fun _ => hb, fun u => absurd u s0⟩
      · rw [if_pos v0] at hb
        rw [fst9_n v0]
        exact ⟨fun _ => hb, fun u => absurd u v0⟩
  · rw [fst9_n f0, fst9_n f0, fst9_n f0]
    exact ⟨h1, fun u => absurd u f0⟩
/-- before a branch, or behind the last -/
def rcJ (T A B D n : Nat) (W pl nq : Nat → Int) (sm : Nat → Nat → Prop) (Nn : Nat) (Mc : mM) (q p c k ar : Nat) (nms : List nm9) (ft : Int × Int) (l3 : Int) (b a : Nat) (M : mM) : Prop := WTq M T A B D n W pl nq sm ∧ cmK q p Mc M ∧ ∃ fB : Int × Int, FT M (q + 1) (fst9 ft fB) ∧ (fB.1 = 0 → b ≤ 8) ∧ (no34 W k a ∧ k + 1 ≤ a) ∧ ((l3 ≠ 0 ∧ b ≤ a ∧ Rc W [50] 0 [56, 57, 34, 50] a ∧ brK W pl sm Nn Mc q p c k ar nms fB a b) ∨ (l3 = 0 ∧ Rc W [50] 0 [34, 50] a ∧ brK W pl sm Nn Mc q p c k ar nms fB (a + 1) b))
/-- a command has been read, exactly: from its arrow at ar on -/
def cmV (W pl : Nat → Int) (sm : Nat → Nat → Prop) (Nn : Nat) (Mc : mM) (q p c k ar ix : Nat) (nms : List nm9) (ft : Int × Int) (x : Int) (M' : mM) : Prop := ∃ a' : Nat, mI M' (q + 1) 2 = a' ∧ ((x = 0 ∧ Rf W [50] 0 a') ∨ (x = 1 ∧ ∃ (e : Nat) (fB : Int × Int), a' = e + 1 ∧ W e = 34 ∧ no34 W k e ∧ Rc W [50] 0 [50] (e + 1) ∧ FT M' (q + 1) (fst9 ft fB) ∧ (CT Mc (q + 1) p nms → nms.length = c → (fB.1 ≠ 0 → brf W pl sm Nn nms e Nn (ar + 1) 0 = fB) ∧ (fB.1 = 0 → brf W pl sm Nn nms e Nn (ar + 1) 0 = (0, 0))) ∧ mI M' (q + 1) 19 = mI Mc (q + 1) 19 ∧ (∀ i, 6 ≤ i → i ≤ 9 → mI M' (q + 1 + i) = mI Mc (q + 1 + i)) ∧ (∀ i, i ≠ 2 → mI M' p i = if i = 12 then (ix : Int) + 1 else mI Mc p i) ∧ mI M' (p + 6) = mI Mc (p + 6) ∧ mI M' (p + 7) = mI Mc (p + 7)))
theorem x_rc_end (h : cmI M0 z q w T A B D N C n p O P K Ab Be Cm V F ns sf ef c cnt L ix nbr a M) (hLa : L ≤ a + 1) (e78 : M' = mUI M p 12 ((ix : Int) + 1)) (wt : WTq M T A B D n W pl nq sm) (km : cmK q p Mc M) (hF : FT M (q + 1) (fst9 ft fB)) (n4 : no34 W k a) (hR : Rc W [50] 0 [34, 50] a) (bk : brK W pl sm Nn Mc q p c k ar nms fB (a + 1) b) : mK M' (mR M' q 0) = 4 ∧ Ci G y_RR_accept d [vr (mR M' q 0), vi 35] M' (fun x82 M81 => i32 x82 ∧ mOk M81 ∧ ((x82 = 0 ∨ x82 = 1) ∧ (cmQ9 M0 z q w T A B D N C n p O P K Ab Be Cm V F ns sf ef c x82 M81 ∧ cmV W pl sm Nn Mc q p c k ar ix nms ft x82 M81))) := by
  obtain ⟨f1, h1, cy, a1, a2, p1, d1, c1, hix⟩ := h
  have ap := h1.1.apart
  have qp := h1.1.2.2.2.2.2.1.2.1
  have f : FI (fun y => y = p) M M' := by rw [e78]; exact FI.ui rfl
  have ok : mOk M' := by rw [e78]; exact mOk_UI h1.1.1.1 ⟨by omega, by omega⟩
  have nb : ∀ y, y ≠ p → mI M' y = mI M y := fun y hy => f.2.2.2.2.2.2 y hy
  have ip : ∀ i, mI M' p i = if i = 12 then (ix : Int) + 1 else mI M p i := fun i => by
    rw [mI_ui _ i e78]
    by_cases y : i = 12
    · rw [if_pos ⟨rfl, y⟩, if_pos y]
    · rw [if_neg (fun t => y t.2), if_neg y]
  have fx : FI (txS q p O P) M M' := f.mono (fun y hy => Or.inr (Or.inr (Or.inr (Or.inl hy))))
  have nO := nb O (by omega)
  have nP := nb P (by omega)
  have nr : ∀ i, i ≤ 10 → mI M' (q + i) = mI M (q + i) := fun i hi => nb _ (by omega)
  have h' : TX M' z q w T A B D N C n p O P K Ab Be Cm V F ns sf ef c (ix + 1) L := by
    obtain ⟨hP, ⟨k1, k2, k3, k4⟩, x1, x2⟩ := h1
    refine ⟨hP.fi ok fx, ⟨by rw [ip, if_neg (by decide)]; exact k1, by rw [ip, if_neg (by decide)]; exact k2, ?_, fun j => by rw [nr 6 (by omega)]; exact k4 j⟩, ⟨by rw [ip, if_pos rfl]; omega, by omega⟩, fun y0 => ?_⟩
    · unfold TN at k3 ⊢
      rw [(hP.words fx).1, nr 1 (by omega), show q + 1 + 6 = q + 7 by omega, show q + 1 + 7 = q + 8 by omega, show q + 1 + 8 = q + 9 by omega, show q + 1 + 9 = q + 10 by omega, nr 7 (by omega), nr 8 (by omega), nr 9 (by omega), nr 10 (by omega)]
      exact k3
    · rw [nr 1 (by omega)] at y0
      obtain ⟨g1, g2, u, v, g3, g4, g5, g6, g7, sg, g8, g9⟩ := cy y0
      subst g1
      have cg : ∀ {s h : Nat}, PC M O P V F ns ef L s h → PC M' O P V F ns ef L s h := fun hc => hc.cg (fun i _ => by rw [nO]) (fun i _ => by rw [nP])
      obtain ⟨m1, m2, m3, m4, m5, ⟨uu, m6, m7, m8⟩, m9⟩ := g7.up (M' := M') (by rw [ip, if_neg (by decide)]) (nb _ (by omega)) (nb _ (by omega)) (fun i _ => by rw [nb _ (by omega)]) (fun i hi => by rw [nb _ (by omega)]) (fun b' _ => ⟨by rw [nb _ (by omega)], by rw [nb _ (by omega)]⟩) (fun i _ => ⟨by rw [nO], by rw [nP]⟩)
      have t12 : mI M' (p + 12) = mI M (p + 12) := nb _ (by omega)
      have uu' : uu = u := by
        rw [t12, g3] at m6
        omega
      refine ⟨v, by rw [t12]; exact g4, m1, m2, fun j hj => ?_, m4, fun j hj => ?_, ⟨v, by rw [t12]; exact g4, Nat.le_refl _, by omega⟩, m9⟩
      · by_cases y : j = ix
        · subst y
          exact ⟨sg, by rw [nb _ (by omega)]; exact g8, cg g9⟩
        · exact m3 j (by omega)
      · by_cases y : j = ix
        · subst y
          exact ⟨u, v, by rw [t12]; exact g3, by rw [t12]; exact g4, by omega, by omega⟩
        · exact m5 j (by omega)
  have n1 := nr 1 (by omega)
  clear cy
  rw [h'.1.2.1.2.1]
  refine ⟨h'.1.1.2.1.1, (x_tx_accept (x := 35) (i32s (by omega) (by omega)) (by omega) h' (by rw [n1]; exact a1) a2).mono (fun x82 M81 kk => ?_)⟩
  obtain ⟨i1, o1, hx, h2, x2, k1, r1, b1, m1⟩ := kk
  have wt' : WTq M' T A B D n W pl nq sm := wt.fi h1.1 fx
  have q9 : ∀ i, i ≤ 9 → q + 1 + i ≠ p := fun i hi => by omega
  refine ⟨i1, o1, hx, ?_⟩
  rcases k1 with ⟨e1, e35, a3, an3⟩ | ⟨e1, e2⟩
  · have w34 : W a = 34 := (wt'.is a2 (by decide) (by decide)).mp e35
    have x2e := x2.2
    refine ⟨?_, a + 1, a3, Or.inr ⟨e1, a, fB, rfl, w34, n4, rc_t hR w34 (by decide), hF.same (by rw [r1 3 (by decide), n1]) (by rw [r1 4 (by decide), n1]), fun ct hl => ?_, ?_⟩⟩
    rotate_left
    · obtain ⟨y1, y2⟩ := bk ct hl a n4 w34
      refine ⟨y1, fun y0 => ?_⟩
      rw [y2 y0, brfc_e (Nat.le_succ a)]
    · refine ⟨by rw [(cmK.tx x2e).1, n1]; exact km.1, fun i i6 i9 => by rw [(cmK.tx x2e).2.1 i i6 i9, nb _ (q9 i i9)]; exact km.2.1 i i6 i9, fun i i2 => ?_, by rw [(cmK.tx x2e).2.2.2.1, nb _ (by omega)]; exact km.2.2.2.1, by rw [(cmK.tx x2e).2.2.2.2, nb _ (by omega)]; exact km.2.2.2.2⟩
      rw [(cmK.tx x2e).2.2.1 i i2, ip]
      by_cases y : i = 12
      · rw [if_pos y, if_pos y]
      · rw [if_neg y, if_neg y]
        exact km.2.2.1 i i2
    refine ⟨(f1.trans fx).trans x2.1, Or.inr ⟨e1, L, ix + 1, a + 1, h2, by rw [b1 p (by omega), ip, if_neg (by decide)]; exact p1, a3, an3, hLa, by rw [r1 5 (by decide), n1]; exact d1⟩⟩
  · rw [e2]
    exact ⟨⟨f1.trans fx, Or.inl ⟨e1, L, ix + 1, h', a, by rw [n1]; exact a1, a2⟩⟩, a, by rw [n1]; exact a1, Or.inl ⟨e1, rf_t hR (fun u => m1 e1 ((wt'.is a2 (by decide) (by decide)).mpr u)) (by decide)⟩⟩
theorem x_rc201 (h : cmI M0 z q w T A B D N C n p O P K Ab Be Cm V F ns sf ef c cnt L ix nbr a M) (hLa : L ≤ a) (hi : i ≤ n) (hNn : n ≤ Nn) (wt : WTq M T A B D n W pl nq sm) (km : cmK q p Mc M) (hF : FT M (q + 1) (fst9 ft (fst9 fB (if 8 ≤ i then (5, pl a) else (0, 0))))) (hb8 : fB.1 = 0 → i ≤ 8) (hia : i ≤ a) (hka : k + 1 ≤ a) (n4 : no34 W k a) (hR : Rc W [50] 0 [56, 57, 34, 50] a) (bk : brK W pl sm Nn Mc q p c k ar nms fB a i) (n8 : mI M (q + 1) 3 = 0 → nbr ≤ i ∧ i < 8) (nx : ∀ (M1 : mM) (l3 : Int) (L' nbr' a' : Nat), i32 l3 → cmI M0 z q w T A B D N C n p O P K Ab Be Cm V F ns sf ef c cnt L' ix nbr' a' M1 → (l3 ≠ 0 → L' ≤ a') → L' ≤ a' + 1 → (mI M1 (q + 1) 3 = 0 → nbr' ≤ i + 1) → rcJ T A B D n W pl nq sm Nn Mc q p c k ar nms ft l3 (i + 1) a' M1 → h_TR_readCommand_160 G (d + 6) q ix l3 ((i : Int) + 1) M1 (fun x M' => cmQ9 M0 z q w T A B D N C n p O P K Ab Be Cm V F ns sf ef c x M' ∧ cmV W pl sm Nn Mc q p c k ar ix nms ft x M')) : h_TR_readCommand_201 G (d + 6) q ix i M (fun x M' => cmQ9 M0 z q w T A B D N C n p O P K Ab Be Cm V F ns sf ef c x M' ∧ cmV W pl sm Nn Mc q p c k ar ix nms ft x M') := by
  obtain ⟨f1, h1, cy, a1, a2, p1, d1, c1, hix⟩ := h
  have hN : n ≤ 16384 := by have := h1.1.1.2.2.2.1.2.2.1; have := h1.1.1.2.2.2.1.1.2.2.2.2.2.2.1; omega
  obtain ⟨⟨np0, np1, -, -⟩, ⟨nO0, nO1, -, -, nOp⟩, nP0, nP1, -, -, nPp⟩ := h1.1.ne
  refine k_TR_readCommand_201 h1.1.1.1 (i32s (by omega) (by omega)) (i32s (by omega) (by omega)) ⟨h1.1.2.1.1, (x_TR_readChance (nms := nms) h1 cy (fun y => by have := n8 y; omega) a1 a2 p1 hLa d1 c1 hix wt hF (hR.trans rc56)).mono (fun x99 M98 kk => ?_)⟩
  obtain ⟨⟨f98, k98⟩, j9, ej9, cv⟩ := kk
  have i99 : i32 x99 := m_b32 (k98.imp (fun u => u.1) (fun u => u.1))
  have o98 : mOk M98 := by
    rcases k98 with ⟨-, u, -⟩ | ⟨-, u, -⟩
    · exact u.1.1.1
    · exact u.1.1.1
  refine ⟨i99, o98, fun y => ?_, fun y => ?_⟩
  · obtain ⟨-, u⟩ := k98.resolve_right (fun u => by rw [y] at u; exact absurd u.1 (by first | decide | simp))
    refine ⟨⟨f1.trans f98, Or.inl ⟨rfl, L, cnt, u⟩⟩, j9, ej9, Or.inl ⟨rfl, ?_⟩⟩
    rcases cv with ⟨-, cv⟩ | ⟨cv, -⟩
    · exact cv
    · exact absurd y (by rw [cv]; decide)
  obtain ⟨-, h98, z98, a', e, a98, an98, p98, Le, ea, d98, c98, cy98, br98⟩ := k98.resolve_left (fun u => y u.1)
  clear k98 cy
  obtain ⟨-, j, E, ej, w33, eo, rc5, F98, hE, km98⟩ := cv.resolve_left (fun u => y u.1)
  clear cv
  have ea' : a' = j + 1 := by
    rw [a98] at ej9
    omega
  subst ea'
  have wt98 : WTq M98 T A B D n W pl nq sm := wt.fi h1.1 f98
  have kmc := km.trans km98
  have I98 : rsI M98 z q w T A B D N C n p O P K Ab Be Cm V F ns sf ef c cnt L (e + 1) (j + 1) (e + 1) M98 := ⟨h98, txF.refl, a98, an98, p98, Nat.le_refl _, ea, d98, c98, fun _ => ⟨fun _ => 0, fun pc h0 h2 => absurd h0 (by omega), rfl, rfl, Nat.le_refl _⟩, by omega⟩
  refine ⟨h98.1.2.1.1, (x_TR_readSets (nms := nms) hNn h98.2.1.2.2.1 I98 wt98 F98 rc5).mono (fun x105 M104 kk => ?_)⟩
  obtain ⟨⟨f104, k104⟩, b9, eb9, rv⟩ := kk
  have i105 : i32 x105 := m_b32 (k104.imp (fun u => u.1) (fun u => u.1))
  have o104 : mOk M104 := by
    rcases k104 with ⟨-, u, -⟩ | ⟨-, u, -⟩
    · exact u.1.1.1
    · exact u.1.1.1
  refine ⟨i105, o104, fun y => ?_, fun y => ?_⟩
  · obtain ⟨-, u⟩ := k104.resolve_right (fun u => by rw [y] at u; exact absurd u.1 (by first | decide | simp))
    refine ⟨⟨(f1.trans f98).trans f104.1, Or.inl ⟨rfl, L, cnt, u⟩⟩, b9, eb9, Or.inl ⟨rfl, ?_⟩⟩
    rcases rv with ⟨-, rv⟩ | ⟨rv, -⟩
    · exact rv
    · exact absurd y (by rw [rv]; decide)
  obtain ⟨-, h104, a2', s9, a104, an104, p104, es9, sa, d104, c104, cd104⟩ := k104.resolve_left (fun u => y u.1)
  clear k104 I98
  obtain ⟨-, rc6, fS, F104, rx⟩ := rv.resolve_left (fun u => y u.1)
  clear rv
  have eb' : a2' = b9 := by
    rw [a104] at eb9
    omega
  subst eb'
  have wt104 : WTq M104 T A B D n W pl nq sm := wt98.fi h98.1 f104.1
  have km104 := kmc.trans (cmK.tx f104.2)
  have jn : j < n := by omega
  obtain ⟨n6, ja2⟩ := rx.no ((n4.eo eo).sc (by rw [w33]; decide))
  have bk2 := bk.step hb8 hia hka n4 hNn eo w33 jn (fun ct hl => hE (ct.cm km) hl) (rx.to (fun ct => ct.cm kmc))
  rw [fst9_as, fst9_as] at F104
  have ka2 : k + 1 ≤ a2' := Nat.le_trans hka (Nat.le_trans (Nat.le_of_lt eo.pr.1) (Nat.le_trans (Nat.le_succ j) ja2))
  have ia2 : i + 1 ≤ a2' + 1 := Nat.succ_le_succ (Nat.le_trans hia (Nat.le_trans (Nat.le_of_lt eo.pr.1) (Nat.le_trans (Nat.le_succ j) ja2)))
  have cy104 := cy98.tx (f104.less (show L ≤ e + 1 by omega)).2
  have z104 : mI M104 (q + 1) 3 = 0 → mI M98 (q + 1) 3 = 0 := fun t => Classical.byContradiction (fun t2 => f104.2.2.1 t2 t)
  have z0 : mI M98 (q + 1) 3 = 0 → mI M (q + 1) 3 = 0 := fun t => Classical.byContradiction (fun t2 => z98 t2 t)
  have br : mI M104 (q + 1) 3 = 0 → ∃ v s s' : Nat, mI M104 (p + 12) (cnt + 1) = ((v : Nat) : Int) ∧ mI M104 (p + 14) v = ((s : Nat) : Int) ∧ PC M104 O P V F ns ef (s9 + 1) s 1 ∧ mI M104 (p + 15) v = ((s' : Nat) : Int) ∧ PC M104 O P V F ns ef (s9 + 1) s' 0 := fun t => by
    obtain ⟨v, H, b1, b2, b3, b4⟩ := br98 (z104 t)
    obtain ⟨H2, b5⟩ := cd104 t
    obtain ⟨-, -, u', v', -, -, -, -, g7, -⟩ := cy104 t
    have t12 := f104.2.2.2.2.2.1 12 (by omega) (by omega)
    have t14 := f104.2.2.2.2.2.1 14 (by omega) (by omega)
    have t15 := f104.2.2.2.2.2.1 15 (by omega) (by omega)
    have fl : ∀ y, y < F → ns y = 7 → ef y < L := fun y hy h7 => ((g7.1 y hy).2 h7).2.2.1
    refine ⟨v, L, e + 1, by rw [t12]; exact b1, by rw [t14]; exact b2, ⟨e, H, F, b4.cg (fun i hi => (f104.2.2.2.2.2.2 i (by omega)).1) (fun i hi => (f104.2.2.2.2.2.2 i (by omega)).2), by omega, Nat.le_refl _, fl⟩, by rw [t15]; exact b3, ⟨s9, H2, F, b5, Nat.lt_succ_self _, Nat.le_refl _, fun y hy h7 => ?_⟩⟩
    have := fl y hy h7
    omega
  have n8' : mI M104 (q + 1) 3 = 0 → nbr < 8 := fun t => by have := n8 (z0 (z104 t)); omega
  obtain ⟨t1, t2⟩ := s_rc_cnt (M0 := M0) ((f1.trans f98).trans f104.1) h104 cy104 n8' a104 an104 p104 (by omega) d104 c104 hix br
  have tt := h104.tab.2.1.2.2.2.2.2.2.2.2.2.1
  rw [h104.1.2.1.2.1, h104.1.2.1.2.2.2.1, tt]
  refine ⟨h104.1.2.1.1, h104.1.1.2.1.1, t1, fun M120 e120 => ?_⟩
  obtain ⟨nbr', I120, hn'⟩ := t2 M120 e120
  have h120 := I120.2.1
  have a120 := I120.2.2.2.1
  have nn : mI M120 (q + 1) 3 = 0 → nbr' ≤ i + 1 := fun t => by
    have t104 : mI M104 (q + 1) 3 = 0 := by
      by_cases u : mI M104 (q + 1) 3 = 0
      · exact u
      · rw [if_neg u] at e120
        rw [e120] at t
        exact t
    have := n8 (z0 (z104 t104))
    have := hn' t
    omega
  have nb120 : ∀ b, b ≠ p + 12 → mI M120 b = mI M104 b := fun b hb => by
    by_cases u : mI M104 (q + 1) 3 = 0
    · rw [if_pos u] at e120
      have f : FI (fun y => y = p + 12) M104 M120 := by rw [e120]; exact FI.ui rfl
      exact f.2.2.2.2.2.2 b hb
    · rw [if_neg u] at e120
      rw [e120]
  have f120 : FI (txS q p O P) M104 M120 := by
    by_cases u : mI M104 (q + 1) 3 = 0
    · rw [if_pos u] at e120
      rw [e120]
      exact FI.ui (Or.inr (Or.inr (Or.inr (Or.inr (Or.inl ⟨by omega, by omega⟩)))))
    · rw [if_neg u] at e120
      rw [e120]
      exact FI.refl
  have q12 : (∀ i, i ≤ 9 → q + 1 + i ≠ p + 12) ∧ p ≠ p + 12 ∧ p + 6 ≠ p + 12 ∧ p + 7 ≠ p + 12 := by
    have qp := h104.1.2.2.2.2.2.1.2.1
    clear t1 t2 br br98 cy98 cy104 cd104 e120 tt n8 n8' hn' nn nx
    exact ⟨fun i hi => by omega, by omega, by omega, by omega⟩
  have r120 : mI M120 (q + 1) = mI M104 (q + 1) := nb120 _ (q12.1 0 (by omega))
  have km120 : cmK q p Mc M120 := km104.trans ⟨by rw [r120], fun i _ i9 => nb120 _ (q12.1 i i9), fun i _ => by rw [nb120 _ q12.2.1], nb120 _ q12.2.2.1, nb120 _ q12.2.2.2⟩
  have wt120 : WTq M120 T A B D n W pl nq sm := wt104.fi h104.1 f120
  have F120 : FT M120 (q + 1) (fst9 ft (fst9 (fst9 (fst9 fB (if 8 ≤ i then (5, pl a) else (0, 0))) (vrf W E pl 0 a j)) fS)) := by
    have u := F104.same (M' := M120) (by rw [r120]) (by rw [r120])
    simp only [fst9_as] at u ⊢
    exact u
  clear t1 t2 br br98 cy98 cy104 cd104 e120 tt n8 n8' hn'
  rw [h120.1.2.1.2.1]
  refine ⟨h120.1.1.1, h120.1.1.2.1.1, (x_tx_accept (x := 25) (i32s (by omega) (by omega)) (by omega) h120 a120 an104).mono (fun x126 M125 kk => ?_)⟩
  obtain ⟨i126, o125, hx126, h125, x125, k125, r125, b125, m125⟩ := kk
  have wt125 : WTq M125 T A B D n W pl nq sm := wt120.fi h120.1 x125.1
  have km125 := km120.trans (cmK.tx x125.2)
  have F125 := F120.same (r125 3 (by decide)) (r125 4 (by decide))
  have z8 : (fst9 (fst9 (fst9 fB (if 8 ≤ i then (5, pl a) else (0, 0))) (vrf W E pl 0 a j)) fS).1 = 0 → i + 1 ≤ 8 := fun u => by
    have u1 := (fst9_1.mp (fst9_1.mp (fst9_1.mp u).1).1).2
    by_cases v : 8 ≤ i
    · rw [if_pos v] at u1
      exact absurd u1 (by first | decide | simp)
    · omega
  obtain ⟨j1, j2, j3, j4, j5, j6, j7, j8, j9⟩ := I120
  have Y : mI M125 (q + 1) 3 = 0 → nbr' ≤ i + 1 := fun t => nn (Classical.byContradiction (fun t2 => x125.2.2.1 t2 t))
  refine ⟨i126, o125, ?_⟩
  rcases k125 with ⟨e1, e24, a125, an125⟩ | ⟨e1, e2⟩
  · have w24 : W a2' = 24 := (wt120.is an104 (by decide) (by decide)).mp e24
    exact nx M125 x126 (s9 + 1) nbr' (a2' + 1) i126 ⟨j1.trans x125.1, h125, j3.tx x125.2, a125, an125, by rw [b125 p np1]; exact j6, by rw [r125 5 (by decide)]; exact j7, by rw [r125 6 (by decide)]; exact j8, j9⟩ (fun _ => by omega) (by omega) Y ⟨wt125, km125, _, F125, z8, ⟨n6.sc (by rw [w24]; decide), Nat.le_succ_of_le ka2⟩, Or.inl ⟨by rw [e1]; decide, ia2, rc6.trans (rc57m w24), bk2⟩⟩
  · have w24 : W a2' ≠ 24 := fun u => m125 e1 ((wt120.is an104 (by decide) (by decide)).mpr u)
    exact nx M125 x126 (s9 + 1) nbr' a2' i126 ⟨j1.trans x125.1, h125, j3.tx x125.2, by rw [e2]; exact j4, j5, by rw [b125 p np1]; exact j6, by rw [r125 5 (by decide)]; exact j7, by rw [r125 6 (by decide)]; exact j8, j9⟩ (fun t => absurd e1 t) (by omega) Y ⟨wt125, km125, _, F125, z8, ⟨n6, ka2⟩, Or.inr ⟨e1, rc6.trans (rc57 w24), bk2⟩⟩
end TXT
end
section
/-! The class's reader of texts, exactly: a command from its arrow on. -/
section TXU
variable {G : mG} {d z q w T A B D N C n p O P K Ab Be Cm V F c s L L' cnt a a0 j k e ix nbr i b f ar Nn : Nat} {M0 M M' M1 M2 Mc Mc' : mM} {ns : Nat → Int} {sf ef : Nat → Nat} {H : Nat → Nat} {W pl nq E : Nat → Int} {sm : Nat → Nat → Prop} {nms : List nm9} {ft fB fS : Int × Int} {zr : List Int}
theorem hF0 {r : Nat} (fB : Int × Int) (h : FT M r (fst9 ft fB)) : FT M r (fst9 ft (fst9 fB (0, 0))) := by
  rw [← fst9_as]
  exact h.none
theorem x_rc160 (hNn : n ≤ Nn) : ∀ (t i : Nat) (M : mM) (l3 : Int) (L nbr a : Nat), n + 1 ≤ i + t → i ≤ n + 1 → i32 l3 → cmI M0 z q w T A B D N C n p O P K Ab Be Cm V F ns sf ef c cnt L ix nbr a M → (l3 ≠ 0 → L ≤ a) → L ≤ a + 1 → (mI M (q + 1) 3 = 0 → nbr ≤ i) → rcJ T A B D n W pl nq sm Nn Mc q p c k ar nms ft l3 i a M → h_TR_readCommand_160 G (d + 6) q ix l3 i M (fun x M' => cmQ9 M0 z q w T A B D N C n p O P K Ab Be Cm V F ns sf ef c x M' ∧ cmV W pl sm Nn Mc q p c k ar ix nms ft x M') := by
  intro t
  induction t with
  | zero =>
    intro i M l3 L nbr a ht hi i3 h hLa hLa1 hn J
    have h1 := h.2.1
    have hix := h.2.2.2.2.2.2.2.2
    have hN : n ≤ 16384 := by have := h1.1.1.2.2.2.1.2.2.1; have := h1.1.1.2.2.2.1.1.2.2.2.2.2.2.1; omega
    obtain ⟨t0, t1, t2, t3, t4, t5⟩ := h1.1.2.1
    have r0 := h1.1.1.2.2.1.1
    have w1 := h1.1.1.2.2.2.1.1.1
    have w2 := h1.1.1.2.2.2.1.2.1
    refine k_TR_readCommand_160 h1.1.1.1 (i32s (by omega) (by omega)) i3 (i32s (by omega) (by omega)) ?_
    rw [t1, r0, w2, t3]
    obtain ⟨wt, km, fB, hF, hb8, ⟨n4, hka'⟩, J⟩ := J
    have a2 := h.2.2.2.2.1
    have J := J.resolve_left (fun u => by
      have := u.2.1
      clear J
      omega)
    exact ⟨t0, h1.1.1.2.1.1, w1, fun _ => ⟨h1.1.1.2.2.2.2.1.1, ⟨by omega, by omega⟩, fun M78 e78 => x_rc_end h hLa1 e78 wt km hF n4 J.2.1 J.2.2⟩, fun y => absurd (Or.inl (by omega)) y⟩
  | succ t ih =>
    intro i M l3 L nbr a ht hi i3 h hLa hLa1 hn J
    have h1 := h.2.1
    have hix := h.2.2.2.2.2.2.2.2
    have hN : n ≤ 16384 := by have := h1.1.1.2.2.2.1.2.2.1; have := h1.1.1.2.2.2.1.1.2.2.2.2.2.2.1; omega
    obtain ⟨t0, t1, t2, t3, t4, t5⟩ := h1.1.2.1
    have r0 := h1.1.1.2.2.1.1
    have w1 := h1.1.1.2.2.2.1.1.1
    have w2 := h1.1.1.2.2.2.1.2.1
    have nxt : ∀ (M1 : mM) (l3 : Int) (L' nbr' a' : Nat), i32 l3 → cmI M0 z q w T A B D N C n p O P K Ab Be Cm V F ns sf ef c cnt L' ix nbr' a' M1 → (l3 ≠ 0 → L' ≤ a') → L' ≤ a' + 1 → (mI M1 (q + 1) 3 = 0 → nbr' ≤ i + 1) → rcJ T A B D n W pl nq sm Nn Mc q p c k ar nms ft l3 (i + 1) a' M1 → i < n + 1 → h_TR_readCommand_160 G (d + 6) q ix l3 ((i : Int) + 1) M1 (fun x M' => cmQ9 M0 z q w T A B D N C n p O P K Ab Be Cm V F ns sf ef c x M' ∧ cmV W pl sm Nn Mc q p c k ar ix nms ft x M') := fun M1 l3 L' nbr' a' j1 j2 j3 j4 j5 jj j6 => by
      rw [show ((i : Int) + 1) = ((i + 1 : Nat) : Int) by omega]
      exact ih (i + 1) M1 l3 L' nbr' a' (by omega) (by omega) j1 j2 j3 j4 j5 jj
    obtain ⟨wt, km, fB, hF, hb8, ⟨n4, hka'⟩, J⟩ := J
    have a2 := h.2.2.2.2.1
    refine k_TR_readCommand_160 h1.1.1.1 (i32s (by clear J; omega) (by clear J; omega)) i3 (i32s (by clear J; omega) (by clear J; omega)) ?_
    rw [t1, r0, w2, t3]
    by_cases l30 : l3 = 0
    · have J := J.resolve_left (fun u => u.1 l30)
      exact ⟨t0, h1.1.1.2.1.1, w1, fun _ => ⟨h1.1.1.2.2.2.2.1.1, ⟨by omega, by omega⟩, fun M78 e78 => x_rc_end h hLa1 e78 wt km hF n4 J.2.1 J.2.2⟩, fun y => absurd (Or.inr l30) y⟩
    obtain ⟨-, hia, hR, bk⟩ := J.resolve_right (fun u => l30 u.1)
    clear J
    refine ⟨t0, h1.1.1.2.1.1, w1, fun y => absurd y (by omega), fun y => ?_⟩
    have i1n : i < n + 1 := by
      by_cases u : ((n : Int) + 1 ≤ i)
      · exact absurd (Or.inl u) y
      · omega
    refine ⟨fun y8 => x_rc201 h (hLa l30) (by omega) hNn wt km (by rw [if_neg (by omega)]; exact hF0 fB hF) hb8 hia hka' n4 hR bk (fun u => ⟨hn u, by omega⟩) (fun M1 l3 L' nbr' a' j1 j2 j3 j4 j5 jj => nxt M1 l3 L' nbr' a' j1 j2 j3 j4 j5 jj i1n), fun y8 => (s_RR_here h1.1.1 h.2.2.2.1 h.2.2.2.2.1).mono (fun x89 M88 kk => ?_)⟩
    obtain ⟨e88, ex89, x0, x1⟩ := kk
    subst e88
    refine ⟨i32s (by omega) (by omega), h1.1.1.1, h1.1.1.2.1.1, (x_tx_note (x := 5) (i32s (by omega) (by omega)) (by omega) (i32s (by omega) (by omega)) h1).mono (fun M92 kk => ?_)⟩
    obtain ⟨o92, h92, x92, u3, u4, u5, u6⟩ := kk
    have F92 := u6 _ hF
    rw [ex89, (wt.1 a a2).2.2, fst9_as] at F92
    obtain ⟨⟨np0, np1, -, -⟩, -, -⟩ := h1.1.ne
    obtain ⟨j1, j2, j3, j4, j5, j6, j7, j8, j9⟩ := h
    refine ⟨o92, x_rc201 (nbr := nbr) ⟨j1.trans x92.1, h92, j3.tx x92.2, by rw [u4 2 (by decide) (by decide)]; exact j4, j5, by rw [u5 p np1]; exact j6, by rw [u4 5 (by decide) (by decide)]; exact j7, by rw [u4 6 (by decide) (by decide)]; exact j8, j9⟩ (hLa l30) (by omega) hNn (wt.fi h1.1 x92.1) (km.trans (cmK.tx x92.2)) (by rw [if_pos (by omega)]; exact F92) hb8 hia hka' n4 hR bk (fun u => absurd u u3) (fun M1 l3 L' nbr' a' j1 j2 j3 j4 j5 jj => nxt M1 l3 L' nbr' a' j1 j2 j3 j4 j5 jj i1n)⟩
/-- the guard has been read: the command begins -/
theorem x_rc_guard {Q9 : Int → mM → Prop} (hQ : ∀ x M9, cmQ9 M0 z q w T A B D N C n p O P K Ab Be Cm V F ns sf ef c x M9 ∧ cmV W pl sm Nn Mc q p c k ar ix nms ft x M9 → Q9 x M9) (f1 : FI (txS q p O P) M0 M) (h : TX M z q w T A B D N C n p O P K Ab Be Cm V F ns sf ef c cnt L) (hix : ix ≤ 59) (hi : mI M (q + 1) 3 = 0 → ix = cnt ∧ cnt < 60) (cd : Cod M O P V F ns L e H 1) (h21 : mI M (q + 21) 0 = ((L : Nat) : Int)) (hp : mI M p 2 = ((e + 1 : Nat) : Int)) (ha : mI M (q + 1) 2 = ((a : Nat) : Int)) (han : a ≤ n) (hea : e + 1 ≤ a) (hd : mI M (q + 1) 5 = 0) (h6 : mI M (q + 1) 6 = 0) (hNn : n ≤ Nn) (hka : k + 1 ≤ a) (wt : WTq M T A B D n W pl nq sm) (km : cmK q p Mc M) (hF : FT M (q + 1) ft) (n4 : no34 W k a) (hR : Rc W [50] 0 [56, 57, 34, 50] a) (har : ar + 1 = a) : mK M q = 3 ∧ mK M (mR M q 2) = 6 ∧ mK M (mR M q 5) = 30 ∧ ((0 : Int) ≤ 0 ∧ 0 < (mN M (mR M q 5) : Int)) ∧ mK M (mR M (mR M q 2) 15) = 30 ∧ ((0 : Int) ≤ ix ∧ (ix : Int) < (mN M (mR M (mR M q 2) 15) : Int)) ∧ ∀ M59, M59 = mUI M (mR M (mR M q 2) 15) (Int.toNat ix) (mI M (mR M q 5) 0) → mK M59 (mR M59 q 2) = 6 ∧ mK M59 (mR M59 (mR M59 q 2) 16) = 30 ∧ ((0 : Int) ≤ ix ∧ (ix : Int) < (mN M59 (mR M59 (mR M59 q 2) 16) : Int)) ∧ ((0 : Int) ≤ (ix : Int) + 1 ∧ (ix : Int) + 1 < (mN M59 (mR M59 (mR M59 q 2) 16) : Int)) ∧ ∀ M65, M65 = mUI M59 (mR M59 (mR M59 q 2) 16) (Int.toNat ((ix : Int) + 1)) (mI M59 (mR M59 (mR M59 q 2) 16) (Int.toNat ix)) → h_TR_readCommand_160 G (d + 6) q ix 1 0 M65 Q9 := by
  have ap := h.1.apart
  have qp := h.1.2.2.2.2.2.1.2.1
  have neq : ∀ i, i ≤ 9 → q + 1 + i ≠ p + 11 ∧ q + 1 + i ≠ p + 12 := fun i hi => by omega
  have ne1 : q + 1 ≠ p + 11 ∧ q + 1 ≠ p + 12 ∧ O ≠ p + 11 ∧ O ≠ p + 12 ∧ P ≠ p + 11 ∧ P ≠ p + 12 ∧ p ≠ p + 11 ∧ p ≠ p + 12 := by omega
  clear ap qp
  have hLe : L ≤ e := cd.2.2.2.2.2
  have hN : n ≤ 16384 := by have := h.1.1.2.2.2.1.2.2.1; have := h.1.1.2.2.2.1.1.2.2.2.2.2.2.1; omega
  obtain ⟨t0, t1, t2, t3, t4, t5⟩ := h.1.2.1
  obtain ⟨s1, s2, s3, s4⟩ := h.1.2.2.1
  obtain ⟨k6, ⟨-, -, -, -, -, -, -, -, p15, p16, -⟩, ⟨-, -, -, -, -, -, -, -, kp11, kp12, -⟩, ⟨-, -, -, -, -, -, -, -, np11, np12, -⟩⟩ := h.tab
  rw [t3, t4, s3, p15, np11, h21, Int.toNat_natCast]
  refine ⟨t0, k6, s1, ⟨by omega, by omega⟩, kp11, by omega, fun M59 e59 => ?_⟩
  obtain ⟨h59, f59, n59, i59⟩ := h.up (b := 11) ⟨by omega, by omega⟩ e59 ⟨by omega, by omega⟩ (fun _ y => by have := hi y; omega) (fun y => absurd y (by omega))
  obtain ⟨-, ⟨-, -, -, -, -, -, -, -, -, p16', -⟩, ⟨-, -, -, -, -, -, -, -, -, kp12', -⟩, ⟨-, -, -, -, -, -, -, -, -, np12', -⟩⟩ := h59.tab
  rw [h59.1.2.1.2.2.2.1, p16', np12', show Int.toNat ((ix : Int) + 1) = ix + 1 by omega, n59 (p + 12) (by omega)]
  refine ⟨h59.1.1.2.2.2.2.1.1, kp12', by omega, by omega, fun M65 e65 => ?_⟩
  have z59 : mI M59 (q + 1) 3 = mI M (q + 1) 3 := by rw [n59 _ ne1.1]
  obtain ⟨h65, f65, n65, i65⟩ := h59.up (b := 12) (h.1.1.1 _ _).1 e65 ⟨by omega, by omega⟩ (fun y => absurd y (by omega)) (fun _ y => by rw [z59] at y; have := hi y; omega)
  have r65 : mI M65 (q + 1) = mI M (q + 1) := by rw [n65 _ ne1.2.1, n59 _ ne1.1]
  have O65 : mI M65 O = mI M O := by rw [n65 _ ne1.2.2.2.1, n59 _ ne1.2.2.1]
  have P65 : mI M65 P = mI M P := by rw [n65 _ ne1.2.2.2.2.2.1, n59 _ ne1.2.2.2.2.1]
  have q65 : mI M65 p = mI M p := by rw [n65 _ ne1.2.2.2.2.2.2.2, n59 _ ne1.2.2.2.2.2.2.1]
  have cy : CY M65 q p O P V F ns sf ef (e + 1) cnt ix 0 := fun y => by
    obtain ⟨u, eu, gu⟩ := h65.2.2.2 y
    rw [r65] at y
    obtain ⟨y1, y2⟩ := hi y
    refine ⟨y1, y2, u, u, eu, ?_, by omega, by omega, gu.longer (Nat.le_succ_of_le hLe), L, ?_, e, H, F, cd.cg (fun i _ => by rw [O65]) (fun i _ => by rw [P65]), Nat.lt_succ_self _, Nat.le_refl _, fun y hy h7 => ((gu.1 y hy).2 h7).2.2.1⟩
    · rw [← y1, i65, if_pos rfl]
      rw [← y1, i65, if_neg (by omega), n59 (p + 12) (by omega)] at eu
      exact eu
    · rw [n65 (p + 11) (by omega), i59, if_pos y1.symm]
  have wt65 : WTq M65 T A B D n W pl nq sm := (wt.fi h.1 f59).fi h59.1 f65
  have km65 : cmK q p Mc M65 := km.trans ⟨by rw [r65], fun i _ i9 => by rw [n65 _ (neq i i9).2, n59 _ (neq i i9).1], fun i _ => by rw [q65], by rw [n65 _ (by omega), n59 _ (by omega)], by rw [n65 _ (by omega), n59 _ (by omega)]⟩
  have F65 : FT M65 (q + 1) (fst9 ft (0, 0)) := (hF.same (by rw [r65]) (by rw [r65])).none
  have J65 : rcJ T A B D n W pl nq sm Nn Mc q p c k ar nms ft 1 0 a M65 := ⟨wt65, km65, (0, 0), F65, fun _ => by omega, ⟨n4, hka⟩, Or.inl ⟨by decide, Nat.zero_le _, hR, fun ct hl e ne we => ⟨fun u => absurd rfl u, fun _ => by rw [har]; rfl⟩⟩⟩
  refine mWm.mono (x_rc160 hNn (n + 1) 0 M65 1 (e + 1) 0 a (by omega) (by omega) (i32s (by omega) (by omega)) ⟨(f1.trans f59).trans f65, h65.any (fun _ => Nat.le_succ_of_le hLe), cy, by rw [r65]; exact ha, han, by rw [q65]; exact hp, by rw [r65]; exact hd, by rw [r65]; exact h6, hix⟩ (fun _ => hea) (by omega) (fun _ => by omega) J65) (fun r M9 u => ?_)
  obtain ⟨y, u1, u2⟩ := u
  exact ⟨y, u1, hQ y M9 u2⟩
end TXU
end
section
/-! The class's reader of texts, exactly: readCommand. -/
section TXV
variable {G : mG} {d z q w T A B D N C n p O P K Ab Be Cm V F c s L L' cnt a j e nbr i b f Nn : Nat} {M0 M M' M1 M2 Mc Mc' : mM} {ns : Nat → Int} {sf ef : Nat → Nat} {H : Nat → Nat} {W pl nq E : Nat → Int} {sm : Nat → Nat → Prop} {nms : List nm9} {ft fB fS : Int × Int} {zr : List Int}
/-- a command has been read, exactly -/
def ccV (W pl nq : Nat → Int) (sm : Nat → Nat → Prop) (Nn : Nat) (Mc : mM) (q p c cnt a : Nat) (nms : List nm9) (ft : Int × Int) (x : Int) (M' : mM) : Prop := ∃ a' : Nat, mI M' (q + 1) 2 = a' ∧ ((x = 0 ∧ Rf W [50] 0 a') ∨ (x = 1 ∧ ∃ (ar ix : Nat) (E : Nat → Int), (cnt < 60 → ix = cnt) ∧ Eo W 6 (a + 1) ar ∧ W ar = 17 ∧ (CT Mc (q + 1) p nms → nms.length = c → E = E9 sm nms 0) ∧ cmV W pl sm Nn Mc q p c a ar ix nms (fst9 ft (vrf W E pl 1 (a + 1) ar)) 1 M'))
theorem x_rc27 {l1 : Int} (f1 : FI (txS q p O P) M0 M) (i1 : i32 l1) (h : TX M z q w T A B D N C n p O P K Ab Be Cm V F ns sf ef c cnt L) (h60 : cnt = 60 → mI M (q + 1) 3 ≠ 0) (ha : mI M (q + 1) 2 = ((a : Nat) : Int)) (han : a < n) (hs : mI M p 2 = ((L : Nat) : Int)) (hsa : L ≤ a) (hd : mI M (q + 1) 5 = 0) (hNn : n ≤ Nn) (wt : WTq M T A B D n W pl nq sm) (km : cmK q p Mc M) (hF : FT M (q + 1) ft) (hW : W a = 7 ∨ W a = 8) (hR : Rc W [50] 0 [50] a) : h_TR_readCommand_27 G (d + 6) q l1 M (fun x M' => cmQ9 M0 z q w T A B D N C n p O P K Ab Be Cm V F ns sf ef c x M' ∧ ccV W pl nq sm Nn Mc q p c cnt a nms ft x M') := by
  have ap := h.1.apart
  have qp := h.1.2.2.2.2.2.1.2.1
  have rc1 : Rc W [50] 0 [61, 17, 56, 57, 34, 50] (a + 1) := by
    refine hR.trans (Rc.one (mst_n (by decide) (by decide) (ys := [61, 17, 56, 57, 34, 50]) (t := 1) ?_ (Or.inl (by decide))))
    rw [ex_50]
    unfold ex50
    rw [if_neg (by omega), if_neg (by omega), if_neg (by omega), if_pos hW]
  have neq : ∀ i, i ≤ 9 → (q + 1 + i ≠ p + 9 ∧ q + 1 + i ≠ p + 10) := fun i hi => by omega
  have ne1 : q + 1 ≠ p + 9 ∧ q + 1 ≠ p + 10 ∧ p ≠ p + 9 ∧ p ≠ p + 10 ∧ p ≠ q + 1 ∧ q + 21 ≠ q + 1 := by omega
  clear ap qp
  have hN : n ≤ 16384 := by have := h.1.1.2.2.2.1.2.2.1; have := h.1.1.2.2.2.1.1.2.2.2.2.2.2.1; omega
  obtain ⟨t0, t1, t2, t3, t4, t5⟩ := h.1.2.1
  have c12 := h.2.2.1.1
  have c60 := h.2.2.1.2
  obtain ⟨k6, ⟨-, -, -, -, -, -, p13, p14, -⟩, ⟨-, -, -, -, -, -, kp9, kp10, -⟩, ⟨-, -, -, -, -, -, np9, np10, -⟩⟩ := h.tab
  obtain ⟨ix, eix, hix, hcx⟩ : ∃ ix : Nat, (if (59 : Int) < (cnt : Int) then (59 : Int) else (cnt : Int)) = ix ∧ ix ≤ 59 ∧ (cnt < 60 → ix = cnt) := by
    by_cases y : (59 : Int) < cnt
    · exact ⟨59, by rw [if_pos y]; rfl, by omega, by omega⟩
    · exact ⟨cnt, by rw [if_neg y], by omega, fun _ => rfl⟩
  refine k_TR_readCommand_27 h.1.1.1 i1 ?_
  rw [t3, c12, p13, np9, eix, Int.toNat_natCast]
  refine ⟨t0, k6, fun v16 e16 => ⟨kp9, by omega, fun M22 e22 => ?_⟩⟩
  have i16 : i32 v16 := by rw [e16]; split <;> exact i32s (by omega) (by omega)
  obtain ⟨h22, f22, n22, -⟩ := h.up (b := 9) i16 e22 ⟨by omega, by omega⟩ (fun y => absurd y (by omega)) (fun y => absurd y (by omega))
  have r22 := n22 (q + 1) ne1.1
  have a22 : mI M22 (q + 1) 2 = ((a : Nat) : Int) := by rw [r22]; exact ha
  obtain ⟨-, ⟨-, -, -, -, -, -, -, p14', -⟩, ⟨-, -, -, -, -, -, -, kp10', -⟩, ⟨-, -, -, -, -, -, -, np10', -⟩⟩ := h22.tab
  rw [h22.1.2.1.2.1, h22.1.2.1.2.2.2.1, p14']
  refine ⟨h22.1.1.2.2.2.2.1.1, h22.1.1.2.1.1, (s_RR_here h22.1.1 a22 (by omega)).mono (fun x27 M26 k => ?_)⟩
  obtain ⟨e26, -, x0, x1⟩ := k
  subst e26
  rw [np10']
  refine ⟨i32s (by omega) (by omega), h22.1.1.1, kp10', by omega, fun M31 e31 => ?_⟩
  obtain ⟨h31, f31, n31, -⟩ := h22.up (b := 10) (i32s (by omega) (by omega)) e31 ⟨by omega, by omega⟩ (fun y => absurd y (by omega)) (fun y => absurd y (by omega))
  have r31 : mI M31 (q + 1) = mI M (q + 1) := by rw [n31 (q + 1) ne1.2.1, r22]
  have p31 : mI M31 p = mI M p := by rw [n31 p ne1.2.2.2.1, n22 p ne1.2.2.1]
  rw [h31.1.2.1.2.1, r31, ha]
  refine ⟨h31.1.2.1.1, h31.1.1.2.1.1, ⟨by omega, by omega⟩, fun M36 e36 => ?_⟩
  obtain ⟨h36, x36, g36⟩ := tx_ui h31 ⟨by omega, by omega⟩ e36 (Or.inr (Or.inr (Or.inr (Or.inl ⟨rfl, Or.inl rfl⟩))))
  rw [h36.1.2.1.2.1]
  refine ⟨h36.1.1.2.1.1, fun M39 e39 => ?_⟩
  obtain ⟨h39, x39, g39⟩ := tx_ui h36 (i32s (by omega) (by omega)) e39 (Or.inr (Or.inr (Or.inr (Or.inl ⟨rfl, Or.inr (Or.inr rfl)⟩))))
  have a39 : mI M39 (q + 1) 2 = ((a + 1 : Nat) : Int) := by rw [g39, if_neg (fun u => absurd u.2 (by first | decide | simp)), g36, if_pos ⟨rfl, rfl⟩]; rfl
  have d39 : mI M39 (q + 1) 5 = ((0 : Nat) : Int) := by rw [g39, if_neg (fun u => absurd u.2 (by first | decide | simp)), g36, if_neg (fun u => absurd u.2 (by first | decide | simp)), r31]; exact hd
  have c39 : mI M39 (q + 1) 6 = 0 := by rw [g39, if_pos ⟨rfl, rfl⟩]
  have z39 : mI M39 (q + 1) 3 = mI M (q + 1) 3 := by rw [g39, if_neg (fun u => absurd u.2 (by first | decide | simp)), g36, if_neg (fun u => absurd u.2 (by first | decide | simp)), r31]
  have p39 : mI M39 p 2 = ((L : Nat) : Int) := by rw [g39, if_neg (fun u => ne1.2.2.2.2.1 u.1), g36, if_neg (fun u => ne1.2.2.2.2.1 u.1), p31]; exact hs
  have f39 : FI (txS q p O P) M0 M39 := (((f1.trans f22).trans f31).trans x36.1).trans x39.1
  have km39 : cmK q p Mc M39 := by
    refine ((km.trans (M2 := M31) ⟨by rw [r31], fun i _ i9 => by rw [n31 _ (neq i i9).2, n22 _ (neq i i9).1], fun i _ => by rw [p31], by rw [n31 _ (by omega), n22 _ (by omega)], by rw [n31 _ (by omega), n22 _ (by omega)]⟩).trans (cmK.tx x36.2)).trans (cmK.tx x39.2)
  have wt39 : WTq M39 T A B D n W pl nq sm := (((wt.fi h.1 f22).fi h22.1 f31).fi h31.1 x36.1).fi h36.1 x39.1
  have F39 : FT M39 (q + 1) ft := hF.same z39 (by rw [g39, if_neg (fun u => absurd u.2 (by first | decide | simp)), g36, if_neg (fun u => absurd u.2 (by first | decide | simp)), r31])
  clear f22 n22 f31 n31 x36 g36 x39 g39 r22 r31 a22 p31 h22 h31 h36
  refine (x_TR_readItemRule (k := 0) (d0 := 0) (nms := nms) (ft := ft) (zz := [17, 56, 57, 34, 50]) (by omega) (i32s (by omega) (by omega)) h39 a39 (by omega) p39 (Nat.le_refl _) (by omega) d39 (by omega) h39.2.1.2.2.1.nk wt39 F39 (by rw [d39]; rfl) (hz_t (by decide)) rc1).mono (fun x42 M41 kk => ?_)
  obtain ⟨⟨h41, x41, ⟨c41, q41, t41⟩, k41⟩, -, E, Cf, ec, a9, ea9, iv⟩ := kk
  have ec : CT Mc (q + 1) p nms → nms.length = c → E = E9 sm nms 0 := fun ct hl => by
    have u := (ec.2 (ct.cm km39) hl).1
    rw [c39, if_pos rfl] at u
    exact u
  have i42 : i32 x42 := m_b32 (k41.imp (fun u => u.1) (fun u => u.1))
  refine ⟨i42, h41.1.1.1, fun y => ?_, fun y => ?_⟩
  · obtain ⟨-, u⟩ := k41.resolve_right (fun u => by rw [y] at u; exact absurd u.1 (by first | decide | simp))
    refine ⟨⟨f39.trans x41.1, Or.inl ⟨rfl, L, cnt, h41, u⟩⟩, a9, ea9, Or.inl ⟨rfl, ?_⟩⟩
    rcases iv with ⟨-, iv⟩ | ⟨iv, -⟩
    · exact iv
    · rw [y] at iv; exact absurd iv (by first | decide | simp)
  obtain ⟨-, e, H, a', cd, p41, a41, aa, an, ea, d41⟩ := k41.resolve_left (fun u => y u.1)
  clear k41
  obtain ⟨-, L9, v1, v2, v3, v4, v5, v6, v7⟩ := iv.resolve_left (fun u => y u.1)
  clear iv
  have ea9' : a' = a9 := by rw [a41] at ea9; omega
  subst ea9'
  have F41 : FT M41 (q + 1) (fst9 ft (vrf W E pl 1 (a + 1) a')) := irv_ft (x := 0) (l2 := 2) (tr := 1) v5 (by simp)
  have wt41 : WTq M41 T A B D n W pl nq sm := wt39.fi h39.1 x41.1
  clear v1 v2 v4 v5 v6
  rw [h41.1.2.1.2.1]
  refine ⟨h41.1.2.1.1, h41.1.1.2.1.1, (x_tx_accept (x := 18) (i32s (by omega) (by omega)) (by omega) h41 a41 an).mono (fun x49 M48 kk => ?_)⟩
  obtain ⟨i49, o48, -, h48, x48, k48, r48, b48, m48⟩ := kk
  refine ⟨i49, o48, fun y => ?_, fun y => ?_⟩
  · rw [(k48.resolve_left (fun u => by rw [y] at u; exact absurd u.1 (by first | decide | simp))).2]
    exact ⟨⟨f39.trans x41.1, Or.inl ⟨rfl, L, cnt, h41, a', a41, an⟩⟩, a', a41, Or.inl ⟨rfl, rf_t v7 (fun u => m48 y ((wt41.is an (by decide) (by decide)).mpr u)) (by decide)⟩⟩
  obtain ⟨-, e17, a48, an48⟩ := k48.resolve_right (fun u => y u.1)
  have w17 : W a' = 17 := (wt41.is an (by decide) (by decide)).mp e17
  have n4 : no34 W a (a' + 1) := (((no34.sc (W := W) (k := a) (a := a) ⟨Nat.le_refl _, fun j j1 j2 => absurd j2 (by omega)⟩ (by omega)).eo v3).sc (by rw [w17]; decide))
  obtain ⟨-, ⟨nO0, nO1, -, -, -⟩, nP0, nP1, -, -, -⟩ := h41.1.ne
  refine x_rc_guard (nms := nms) (k := a) (ar := a') (Mc := Mc) (Nn := Nn) (W := W) (pl := pl) (sm := sm) (nq := nq) (ft := fst9 ft (vrf W E pl 1 (a + 1) a')) (fun x M9 u => ?_) ((f39.trans x41.1).trans x48.1) h48 hix (fun t => ?_) (cd.cg (fun i _ => by rw [b48 O nO1]) (fun i _ => by rw [b48 P nP1])) (by rw [b48 _ ne1.2.2.2.2.2, t41, if_pos rfl]) (by rw [b48 p ne1.2.2.2.2.1]; exact p41) a48 an48 (by omega) (by rw [r48 5 (by decide), d41]; exact d39) (by rw [r48 6 (by decide), c41]; exact c39) hNn (by omega) (wt41.fi h41.1 x48.1) ((km39.trans (cmK.tx x41.2)).trans (cmK.tx x48.2)) (F41.same (r48 3 (by decide)) (r48 4 (by decide))) n4 (rc_t v7 w17 (by decide)) rfl
  · obtain ⟨u1, b9, u2, u3⟩ := u
    refine ⟨u1, b9, u2, u3.imp (fun v => v) (fun v => ⟨v.1, a', ix, E, hcx, v3, w17, ec, b9, u2, Or.inr ⟨rfl, v.2⟩⟩)⟩
  have t41' : mI M41 (q + 1) 3 = 0 := by rw [r48 3 (by decide)] at t; exact t
  have t39 : mI M39 (q + 1) 3 = 0 := Classical.byContradiction (fun t2 => x41.2.2.1 t2 t41')
  have : cnt ≠ 60 := fun u => h60 u (by rw [← z39]; exact t39)
  exact ⟨hcx (by omega), by omega⟩
theorem x_TR_readCommand {l1 : Int} (i1 : i32 l1) (h : TX M z q w T A B D N C n p O P K Ab Be Cm V F ns sf ef c cnt L) (ha : mI M (q + 1) 2 = ((a : Nat) : Int)) (han : a < n) (hs : mI M p 2 = ((L : Nat) : Int)) (hsa : L ≤ a) (hd : mI M (q + 1) 5 = 0) (hNn : n ≤ Nn) (wt : WTq M T A B D n W pl nq sm) (hF : FT M (q + 1) ft) (hW : W a = 7 ∨ W a = 8) (hR : Rc W [50] 0 [50] a) : Ci G y_TR_readCommand (d + 7) [vr q, vi l1] M (fun x M' => cmQ9 M z q w T A B D N C n p O P K Ab Be Cm V F ns sf ef c x M' ∧ ccV W pl nq sm Nn M q p c cnt a nms (fst9 ft (if cnt < 60 then (0, 0) else (5, pl a))) x M') := by
  obtain ⟨t0, t1, t2, t3, t4, t5⟩ := h.1.2.1
  have c12 := h.2.2.1.1
  refine k_TR_readCommand h.1.1.1 i1 ?_
  rw [t3, t1, c12]
  refine ⟨t0, h.1.1.2.2.2.2.1.1, fun y => x_rc27 FI.refl i1 h (fun u => absurd y (by omega)) ha han hs hsa hd hNn wt cmK.refl (by rw [if_pos (by omega)]; exact hF.none) hW hR, fun y => ⟨h.1.1.2.1.1, (s_RR_here h.1.1 ha (by omega)).mono (fun x7 M6 kk => ?_)⟩⟩
  obtain ⟨e6, ex7, x0, x1⟩ := kk
  subst e6
  refine ⟨i32s (by omega) (by omega), h.1.1.1, h.1.1.2.1.1, (x_tx_note (x := 5) (i32s (by omega) (by omega)) (by omega) (i32s (by omega) (by omega)) h).mono (fun M10 kk => ?_)⟩
  obtain ⟨o10, h10, x10, u3, u4, u5, u6⟩ := kk
  have F10 := u6 ft hF
  rw [ex7, (wt.1 a (Nat.le_of_lt han)).2.2] at F10
  have c60 : ¬ cnt < 60 := fun u => by omega
  obtain ⟨⟨np0, np1, -, -⟩, -, -⟩ := h.1.ne
  exact ⟨o10, x_rc27 x10.1 i1 h10 (fun _ => u3) (by rw [u4 2 (by decide) (by decide)]; exact ha) han (by rw [u5 p np1]; exact hs) hsa (by rw [u4 5 (by decide) (by decide)]; exact hd) hNn (wt.fi h.1 x10.1) (cmK.tx x10.2) (by rw [if_neg c60]; exact F10) hW hR⟩
end TXV
end
section
/-! The class's reader of texts, exactly: items, pure. -/
section TXW
variable {W pl nq E : Nat → Int} {sm : Nat → Nat → Prop} {Nn k e i j ar : Nat} {s s' : st9} {f2 X I fB : Int × Int}
theorem no34.nil : no34 W k k := ⟨Nat.le_refl _, fun j j1 j2 => absurd j2 (by omega)⟩
theorem nxq_34 (h : no34 W k e) (w : W e = 34) (hN : e ≤ k + Nn) : nxq W 34 Nn k = e := nxq_at h.1 hN w h.2
theorem vrf_z {tr : Int} {x y : Nat} (h : (vrf W E pl tr x y).1 = 0) : (fl W E pl 0 x y).1 = 0 ∧ kdq W E 0 x y = tr := by
  obtain ⟨h1, h2⟩ := fst9_1.mp h
  refine ⟨h1, Classical.byContradiction (fun u => ?_)⟩
  unfold kft at h2
  rw [if_neg u] at h2
  exact absurd h2 (by first | decide | simp)
/-- a fault that has been found stays -/
theorem fst9_k {a b : Int × Int} (h : a.1 ≠ 0) : fst9 a b = a := if_neg h
/-- a const or formula, its faults -/
theorem itc_r {nF : Nat} {f : Int × Int} {v : vrs} {co : Int} (hco : co = if W k = 3 then 1 else 0) (hf : f = fl W (E9 sm s.1 co) pl 0 (k + 3) e) (hv : v = vlq W (cv9 W nq sm s.1) pl 0 0 (k + 3) e) (hF : s.2.1.2.1 = nF) (h60 : nF ≤ 60) (kn : knf sm pl s.1 (k + 1) f2) : ((fst9 (fst9 (if nF < 60 then (0, 0) else (5, pl k)) f2) f).1 ≠ 0 → (itr W pl nq sm k e s).2.2 = fst9 (fst9 (if nF < 60 then (0, 0) else (5, pl k)) f2) f) ∧ ((fst9 (fst9 (if nF < 60 then (0, 0) else (5, pl k)) f2) f).1 = 0 → (W k = 3 → v.1 ≠ 0 → (itr W pl nq sm k e s).2.2 = (v.1, v.2.1)) ∧ ((W k = 3 → v.1 = 0) → itr W pl nq sm k e s = (s.1 ++ [(k + 1, (if W k = 3 then 1 else 2), kdq W (E9 sm s.1 co) 0 (k + 3) e, if W k = 3 then v else (0, 0, 1))], (s.2.1.1, s.2.1.2.1 + 1, s.2.1.2.2), (0, 0)))) := by
  have e0 : itr W pl nq sm k e s = if s.2.1.2.1 = 60 then (s.1, s.2.1, (5, pl k)) else if fnd9 sm s.1 (k + 1) ≠ none then (s.1, s.2.1, (2, pl (k + 1))) else if f.1 ≠ 0 then (s.1, s.2.1, f) else if (if W k = 3 then v else ((0, 0, 1) : vrs)).1 ≠ 0 then (s.1, s.2.1, ((if W k = 3 then v else ((0, 0, 1) : vrs)).1, (if W k = 3 then v else ((0, 0, 1) : vrs)).2.1)) else (s.1 ++ [(k + 1, (if W k = 3 then 1 else 2), kdq W (E9 sm s.1 co) 0 (k + 3) e, if W k = 3 then v else (0, 0, 1))], (s.2.1.1, s.2.1.2.1 + 1, s.2.1.2.2), (0, 0)) := by
    rw [hf, hv, hco]
    rfl
  rw [e0, hF]
  by_cases c1 : nF = 60
  · rw [if_pos c1, if_neg (show ¬ nF < 60 by omega), fst9_k (show ((((5 : Int), pl k)).1 : Int) ≠ 0 by simp), fst9_k (show ((((5 : Int), pl k)).1 : Int) ≠ 0 by simp)]
    exact ⟨fun _ => rfl, fun u => absurd u (by first | decide | simp)⟩
  · rw [if_neg c1, if_pos (show nF < 60 by omega), fst9_0]
    by_cases c2 : fnd9 sm s.1 (k + 1) = none
    · rw [if_neg (fun u => u c2), kn.1 c2, fst9_0]
      by_cases c3 : f.1 = 0
      · rw [if_neg (fun u => u c3)]
        refine ⟨fun u => absurd c3 u, fun _ => ⟨fun w3 v1 => ?_, fun u => ?_⟩⟩
        · rw [if_pos w3, if_pos v1]
        · rw [if_neg]
          intro u2
          by_cases w3 : W k = 3
          · rw [if_pos w3] at u2
            exact u2 (u w3)
          · rw [if_neg w3] at u2
            exact u2 rfl
      · rw [if_pos c3]
        exact ⟨fun _ => rfl, fun u => absurd u c3⟩
    · rw [if_pos c2, kn.2 c2, fst9_k (show ((((2 : Int), pl (k + 1))).1 : Int) ≠ 0 by simp)]
      exact ⟨fun _ => rfl, fun u => absurd u (by first | decide | simp)⟩
/-- a var -/
theorem itc_v {nV : Nat} {t8 i7 : Int} {lo hi be : vrs} (hV : s.2.1.1 = nV) (h12 : nV ≤ 12) (kn : knf sm pl s.1 (k + 1) f2) (hi9 : (if W (k + 3) = 5 then k + 4 else nxq W 9 (e - (k + 3)) (k + 3)) = i) (hj : W (k + 3) ≠ 5 → nxq W 16 Nn (k + 3) = j) (ht : t8 = if W (k + 3) = 5 then 1 else 0) (h7 : i7 = if W i = 9 then 1 else 0) (hX : X = if W (k + 3) = 5 then (0, 0) else fst9 (rf9 W pl sm s.1 1 0 (k + 3) j) (rf9 W pl sm s.1 1 0 (j + 1) i)) (hI : I = if W i = 9 then rf9 W pl sm s.1 1 t8 (i + 1) e else (0, 0)) (hlo : W (k + 3) ≠ 5 → lo = vlq W (cv9 W nq sm s.1) pl 0 0 (k + 3) j) (hhi : W (k + 3) ≠ 5 → hi = vlq W (cv9 W nq sm s.1) pl 0 0 (j + 1) i) (hbe : W i = 9 → be = vlq W (cv9 W nq sm s.1) pl 0 0 (i + 1) e) : ((fst9 (fst9 (fst9 (if nV < 12 then (0, 0) else (5, pl k)) f2) X) I).1 ≠ 0 → (itv W pl nq sm Nn k e s).2.2 = fst9 (fst9 (fst9 (if nV < 12 then (0, 0) else (5, pl k)) f2) X) I) ∧ ((fst9 (fst9 (fst9 (if nV < 12 then (0, 0) else (5, pl k)) f2) X) I).1 = 0 → ((sv9 t8 i7 lo hi be (pl (k + 3)) (pl (j + 1)) (pl (i + 1))).1 ≠ 0 → (itv W pl nq sm Nn k e s).2.2 = sv9 t8 i7 lo hi be (pl (k + 3)) (pl (j + 1)) (pl (i + 1))) ∧ ((sv9 t8 i7 lo hi be (pl (k + 3)) (pl (j + 1)) (pl (i + 1))).1 = 0 → itv W pl nq sm Nn k e s = svN s (k + 1) t8)) := by
  have eT : W (k + 3) = 5 ↔ t8 = 1 := by
    rw [ht]
    by_cases c : W (k + 3) = 5
    · rw [if_pos c]; exact ⟨fun _ => rfl, fun _ => c⟩
    · rw [if_neg c]; exact ⟨fun u => absurd u c, fun u => absurd u (by first | decide | simp)⟩
  have e7 : i7 = 0 ↔ W i ≠ 9 := by
    rw [h7]
    by_cases c : W i = 9
    · rw [if_pos c]; exact ⟨fun u => absurd u (by first | decide | simp), fun u => absurd c u⟩
    · rw [if_neg c]; exact ⟨fun _ => c, fun _ => rfl⟩
  have evf : vf9 W pl sm s.1 k e (nxq W 16 Nn (k + 3)) i = fst9 (fst9 X I) (0, 0) := by
    unfold vf9
    rw [hX, hI, ht]
    by_cases c : W (k + 3) = 5
    · rw [if_pos c, if_pos c, if_pos c]
    · rw [if_neg c, if_neg c, if_neg c, hj c]
  have evw : vw9 W pl nq sm s.1 k e (nxq W 16 Nn (k + 3)) i = sv9 t8 i7 lo hi be (pl (k + 3)) (pl (j + 1)) (pl (i + 1)) := by
    have e1 : vw9 W pl nq sm s.1 k e (nxq W 16 Nn (k + 3)) i = fst9 (if W (k + 3) = 5 then (0, 0) else fst9 (fst9 (wh9 (vlq W (cv9 W nq sm s.1) pl 0 0 (k + 3) (nxq W 16 Nn (k + 3))) (pl (k + 3))) (wh9 (vlq W (cv9 W nq sm s.1) pl 0 0 (nxq W 16 Nn (k + 3) + 1) i) (pl (nxq W 16 Nn (k + 3) + 1)))) (if (vlq W (cv9 W nq sm s.1) pl 0 0 (k + 3) (nxq W 16 Nn (k + 3))).2.1 ≤ (vlq W (cv9 W nq sm s.1) pl 0 0 (nxq W 16 Nn (k + 3) + 1) i).2.1 ∧ (vlq W (cv9 W nq sm s.1) pl 0 0 (nxq W 16 Nn (k + 3) + 1) i).2.1 - (vlq W (cv9 W nq sm s.1) pl 0 0 (k + 3) (nxq W 16 Nn (k + 3))).2.1 < 10000 then (0, 0) else (9, pl (nxq W 16 Nn (k + 3) + 1)))) (if W i = 9 then (if W (k + 3) = 5 then wh9 (vlq W (cv9 W nq sm s.1) pl 0 0 (i + 1) e) (pl (i + 1)) else fst9 (wh9 (vlq W (cv9 W nq sm s.1) pl 0 0 (i + 1) e) (pl (i + 1))) (if (vlq W (cv9 W nq sm s.1) pl 0 0 (k + 3) (nxq W 16 Nn (k + 3))).2.1 ≤ (vlq W (cv9 W nq sm s.1) pl 0 0 (i + 1) e).2.1 ∧ (vlq W (cv9 W nq sm s.1) pl 0 0 (i + 1) e).2.1 ≤ (vlq W (cv9 W nq sm s.1) pl 0 0 (nxq W 16 Nn (k + 3) + 1) i).2.1 then (0, 0) else (9, pl (i + 1)))) else (0, 0)) := rfl
    rw [e1]
    unfold sv9
    by_cases c : W (k + 3) = 5
    · rw [if_pos c, if_pos (eT.mp c)]
      by_cases c9 : W i = 9
      · rw [if_pos c9, if_pos c, if_neg (fun u => e7.mp u c9), if_pos (eT.mp c), hbe c9]
      · rw [if_neg c9, if_pos (e7.mpr c9)]
    · have c1 : ¬ t8 = 1 := fun u => c (eT.mpr u)
      rw [if_neg c, if_neg c1, hj c, ← hlo c, ← hhi c]
      by_cases c9 : W i = 9
      · rw [if_pos c9, if_neg c, if_neg (fun u => e7.mp u c9), if_neg c1, ← hbe c9]
      · rw [if_neg c9, if_pos (e7.mpr c9)]
  have e0 : itv W pl nq sm Nn k e s = if s.2.1.1 = 12 then (s.1, s.2.1, (5, pl k)) else if fnd9 sm s.1 (k + 1) ≠ none then (s.1, s.2.1, (2, pl (k + 1))) else if (vf9 W pl sm s.1 k e (nxq W 16 Nn (k + 3)) i).1 ≠ 0 then (s.1, s.2.1, vf9 W pl sm s.1 k e (nxq W 16 Nn (k + 3)) i) else if (vw9 W pl nq sm s.1 k e (nxq W 16 Nn (k + 3)) i).1 ≠ 0 then (s.1, s.2.1, vw9 W pl nq sm s.1 k e (nxq W 16 Nn (k + 3)) i) else (s.1 ++ [(k + 1, 3, (if W (k + 3) = 5 then 1 else 0), (0, 0, 1))], (s.2.1.1 + 1, s.2.1.2), (0, 0)) := by
    rw [← hi9]
    rfl
  rw [evf, evw] at e0
  clear evf evw hlo hhi hbe hj hX hI
  generalize sv9 t8 i7 lo hi be (pl (k + 3)) (pl (j + 1)) (pl (i + 1)) = sv at e0 ⊢
  rw [fst9_as _ X I]
  rw [e0, hV]
  by_cases c1 : nV = 12
  · rw [if_pos c1, if_neg (show ¬ nV < 12 by omega), fst9_k (show ((((5 : Int), pl k)).1 : Int) ≠ 0 by simp), fst9_k (show ((((5 : Int), pl k)).1 : Int) ≠ 0 by simp)]
    exact ⟨fun _ => rfl, fun u => absurd u (by first | decide | simp)⟩
  · rw [if_neg c1, if_pos (show nV < 12 by omega), fst9_0]
    by_cases c2 : fnd9 sm s.1 (k + 1) = none
    · rw [if_neg (fun u => u c2), kn.1 c2, fst9_0]
      generalize fst9 X I = g
      by_cases c3 : g.1 = 0
      · rw [show fst9 g (0, 0) = (0, 0) from if_pos c3, if_neg (fun u => u rfl)]
        refine ⟨fun u => absurd c3 u, fun _ => ⟨fun v1 => ?_, fun v1 => ?_⟩⟩
        · rw [if_pos v1]
        · rw [if_neg (fun u => u v1), ← ht]
          unfold svN
          rw [hV]
      · rw [show fst9 g (0, 0) = g from if_neg c3, if_pos c3]
        exact ⟨fun _ => rfl, fun u => absurd u c3⟩
    · rw [if_pos c2, kn.2 c2, fst9_k (show ((((2 : Int), pl (k + 1))).1 : Int) ≠ 0 by simp)]
      exact ⟨fun _ => rfl, fun u => absurd u (by first | decide | simp)⟩
/-- a target -/
theorem itc_t {f : Int × Int} (hf : f = rf9 W pl sm s.1 0 1 (k + 1) e) : ((fst9 (if s.2.1.2.2.2 = 0 then (0, 0) else (4, pl k)) f).1 ≠ 0 → (itt W pl sm k e s).2.2 = fst9 (if s.2.1.2.2.2 = 0 then (0, 0) else (4, pl k)) f) ∧ ((fst9 (if s.2.1.2.2.2 = 0 then (0, 0) else (4, pl k)) f).1 = 0 → itt W pl sm k e s = (s.1, (s.2.1.1, s.2.1.2.1, s.2.1.2.2.1, 1), (0, 0))) := by
  have e0 : itt W pl sm k e s = if s.2.1.2.2.2 ≠ 0 then (s.1, s.2.1, (4, pl k)) else if f.1 ≠ 0 then (s.1, s.2.1, f) else (s.1, (s.2.1.1, s.2.1.2.1, s.2.1.2.2.1, 1), (0, 0)) := by
    rw [hf]
    rfl
  rw [e0]
  by_cases c1 : s.2.1.2.2.2 = 0
  · rw [if_neg (show ¬ s.2.1.2.2.2 ≠ 0 from fun u => u c1), if_pos c1, fst9_0]
    by_cases c3 : f.1 = 0
    · rw [if_neg (fun u => u c3)]
      exact ⟨fun u => absurd c3 u, fun _ => rfl⟩
    · rw [if_pos c3]
      exact ⟨fun _ => rfl, fun u => absurd u c3⟩
  · rw [if_pos c1, if_neg c1, fst9_k (show ((((4 : Int), pl k)).1 : Int) ≠ 0 by simp)]
    exact ⟨fun _ => rfl, fun u => absurd u (by first | decide | simp)⟩
/-- a command -/
theorem itc_c {nC : Nat} {f : Int × Int} (hC : s.2.1.2.2.1 = nC) (h60 : nC ≤ 60) (hr : nxq W 17 Nn (k + 1) = ar) (hf : f = rf9 W pl sm s.1 0 1 (k + 1) ar) (hb1 : fB.1 ≠ 0 → brf W pl sm Nn s.1 e Nn (ar + 1) 0 = fB) (hb2 : fB.1 = 0 → brf W pl sm Nn s.1 e Nn (ar + 1) 0 = (0, 0)) : ((fst9 (fst9 (if nC < 60 then (0, 0) else (5, pl k)) f) fB).1 ≠ 0 → (itc W pl sm Nn 60 k e s).2.2 = fst9 (fst9 (if nC < 60 then (0, 0) else (5, pl k)) f) fB) ∧ ((fst9 (fst9 (if nC < 60 then (0, 0) else (5, pl k)) f) fB).1 = 0 → itc W pl sm Nn 60 k e s = (s.1, (s.2.1.1, s.2.1.2.1, s.2.1.2.2.1 + 1, s.2.1.2.2.2), (0, 0))) := by
  have e0 : itc W pl sm Nn 60 k e s = if s.2.1.2.2.1 = 60 then (s.1, s.2.1, (5, pl k)) else if (fst9 f (brf W pl sm Nn s.1 e Nn (ar + 1) 0)).1 ≠ 0 then (s.1, s.2.1, fst9 f (brf W pl sm Nn s.1 e Nn (ar + 1) 0)) else (s.1, (s.2.1.1, s.2.1.2.1, s.2.1.2.2.1 + 1, s.2.1.2.2.2), (0, 0)) := by
    rw [hf, ← hr]
    rfl
  rw [e0, hC]
  by_cases c1 : nC = 60
  · rw [if_pos c1, if_neg (show ¬ nC < 60 by omega), fst9_k (show ((((5 : Int), pl k)).1 : Int) ≠ 0 by simp), fst9_k (show ((((5 : Int), pl k)).1 : Int) ≠ 0 by simp)]
    exact ⟨fun _ => rfl, fun u => absurd u (by first | decide | simp)⟩
  · rw [if_neg c1, if_pos (show nC < 60 by omega), fst9_0]
    by_cases c3 : f.1 = 0
    · rw [fst9_zr c3, fst9_zr c3]
      by_cases c4 : fB.1 = 0
      · rw [hb2 c4, if_neg (fun u => u rfl)]
        exact ⟨fun u => absurd c4 u, fun _ => rfl⟩
      · rw [hb1 c4, if_pos c4]
        exact ⟨fun _ => rfl, fun u => absurd u c4⟩
    · rw [fst9_k c3, fst9_k c3, if_pos c3]
      exact ⟨fun _ => rfl, fun u => absurd u c3⟩
end TXW
end
section
/-! The class's reader of texts, exactly: an item is settled. -/
section TXX
variable {G : mG} {d z q w T A B D N C n p O P K Ab Be Cm V F c L cnt a nw k e e0 Nn L' : Nat} {M0 M M' M1 M2 : mM} {ns : Nat → Int} {sf ef : Nat → Nat} {H : Nat → Nat} {W pl nq E : Nat → Int} {Cf : Nat → Int × Int} {sm : Nat → Nat → Prop} {s s' : st9} {ft f2 : Int × Int}
/-- the state behind the item at k -/
noncomputable def sN (W pl nq : Nat → Int) (sm : Nat → Nat → Prop) (Nn k : Nat) (s : st9) : st9 := if s.2.2.1 ≠ 0 then s else ite9 W pl nq sm Nn 60 k s
theorem sN_n (h : s.2.2.1 ≠ 0) : sN W pl nq sm Nn k s = s := if_pos h
theorem sN_r (h : s.2.2.1 = 0) (hW : W k = 3 ∨ W k = 6) (he : nxq W 34 Nn k = e) : sN W pl nq sm Nn k s = itr W pl nq sm k e s := by
  unfold sN
  rw [if_neg (fun u => u h)]
  unfold ite9
  simp only [he]
  rw [if_pos hW]
theorem sN_v (h : s.2.2.1 = 0) (hW : W k = 4) (he : nxq W 34 Nn k = e) : sN W pl nq sm Nn k s = itv W pl nq sm Nn k e s := by
  unfold sN
  rw [if_neg (fun u => u h)]
  unfold ite9
  simp only [he]
  rw [if_neg (by omega), if_pos hW]
theorem sN_t (h : s.2.2.1 = 0) (hW : W k = 11) (he : nxq W 34 Nn k = e) : sN W pl nq sm Nn k s = itt W pl sm k e s := by
  unfold sN
  rw [if_neg (fun u => u h)]
  unfold ite9
  simp only [he]
  rw [if_neg (by omega), if_neg (by omega), if_pos hW]
theorem sN_c (h : s.2.2.1 = 0) (hW : W k = 7 ∨ W k = 8) (he : nxq W 34 Nn k = e) : sN W pl nq sm Nn k s = itc W pl sm Nn 60 k e s := by
  unfold sN
  rw [if_neg (fun u => u h)]
  unfold ite9
  simp only [he]
  rw [if_neg (by omega), if_neg (by omega), if_neg (by omega)]
theorem ECq.fw {nms : List nm9} {co : Int} {s0 : Nat} (h : ECq M (q + 1) p n W nq sm nms c co E Cf) (ct : CT M (q + 1) p nms) (f : txE M q p O P s0 M') : ECq M' (q + 1) p n W nq sm nms c co E Cf := by
  refine ⟨h.1, fun _ hl => ?_⟩
  have k := h.2 ct hl
  rw [f.2.2.1 7 (by decide) (by decide), f.2.2.1 8 (by decide) (by decide)]
  exact k
theorem CSm.tx {s0 : Nat} (cs : CSm M q p s) (f : txE M q p O P s0 M') : CSm M' q p s := by
  obtain ⟨c1, c2, c3, c4, c5, c6⟩ := cs
  have e := f.2.2.2.1
  exact ⟨c1.tx f, by rw [e 3 (by decide)]; exact c2, by rw [e 7 (by decide)]; exact c3, by rw [e 12 (by decide)]; exact c4, by rw [e 11 (by decide)]; exact c5, c6⟩
theorem CSm.len (cs : CSm M q p s) (h : TX M z q w T A B D N C n p O P K Ab Be Cm V F ns sf ef c cnt L) : s.1.length = c ∧ s.2.1.1 = V ∧ s.2.1.2.1 = F ∧ s.2.1.2.2.1 = cnt := by
  obtain ⟨c1, c2, c3, c4, c5, c6⟩ := cs
  have y0 := c1.1
  have y1 := h.2.1.2.2.1.1
  have y2 := h.2.1.1.1
  have y3 := h.2.1.2.1.1
  have y4 := h.2.2.1.1
  refine ⟨?_, ?_, ?_, ?_⟩ <;> omega
theorem cv_eq {x y : Nat} (hy : y ≤ n) (eo : Eo W 6 x y) : vlq W (cvn W nq sm s.1 n) pl 0 0 x y = vlq W (cv9 W nq sm s.1) pl 0 0 x y := by
  refine vl_ci0 (fun k _ k2 => ?_) eo
  unfold cvn
  rw [if_pos (by omega)]
theorem x_TR_settleNamed_bad {l1 : Int} (h4 : l1 = 4 ∨ l1 = 7) (h : TX M z q w T A B D N C n p O P K Ab Be Cm V F ns sf ef c cnt L) (hLe : L ≤ e) (hp : mI M p 2 = ((e + 1 : Nat) : Int)) (ha : mI M (q + 1) 2 = ((a : Nat) : Int)) (han : a ≤ n) (hLa : e + 1 ≤ a) (hd : mI M (q + 1) 5 = 0) (hF : FT M (q + 1) ft) (f0 : ft.1 ≠ 0) (es : s'.2.2 = ft) : Cv G y_TR_settleNamed (d + 6) [vr q, vi l1] M (fun M' => itE M z q w T A B D N C n p O P K Ab Be Cm M' ∧ itZ q p s' M' ∧ mI M' (q + 1) 2 = ((a : Nat) : Int)) := by
  obtain ⟨t0, t1, t2, t3, t4, t5⟩ := h.1.2.1
  refine k_TR_settleNamed h.1.1.1 (i32s (by omega) (by omega)) ?_
  have f3 : mI M (q + 1) 3 ≠ 0 := by rw [hF.1]; exact f0
  refine ⟨t0, by rw [t1]; exact h.1.1.2.1.1, fun y0 => absurd (by rw [t1] at y0; exact y0) f3, fun y0 => ?_⟩
  exact ⟨⟨Ab, Be, Cm, V, F, ns, sf, ef, c, cnt, e + 1, a, h.any (fun _ => Nat.le_succ_of_le hLe), hp, ha, han, hLa, hd, trF.refl⟩, itZ.bad (by rw [es]; exact hF) (by rw [es]; exact f0), ha⟩
theorem x_st_named {l1 : Int} (hFx : FMx G) (h4 : l1 = 4 ∨ l1 = 7) (hl1 : l1 = W k + 1) (h0 : TX M z q w T A B D N C n p O P K Ab Be Cm V F ns sf ef c cnt L) (h : TX M1 z q w T A B D N C n p O P K Ab Be Cm V F ns sf ef c cnt L) (y60 : 60 ≤ F → mI M1 (q + 1) 3 ≠ 0) (cd : Cod M1 O P (vco l1 V) F (nco l1 ns) L e H 1) (hp : mI M1 p 2 = ((e + 1 : Nat) : Int)) (ha : mI M1 (q + 1) 2 = ((a : Nat) : Int)) (han : a ≤ n) (hLa : e + 1 ≤ a) (hd : mI M1 (q + 1) 5 = 0) (hn : mI M1 q 3 = ((nw : Nat) : Int) ∧ nw < n ∧ mI M1 A nw = 2) (h8 : mI M1 q 8 = 0 ∨ mI M1 q 8 = 1) (h21 : mI M1 (q + 21) 0 = ((L : Nat) : Int)) (zs : itZ q p s M) (wt : WTq M1 T A B D n W pl nq sm) (hw : W (k + 1) = 1 ∧ W (k + 2) = 23) (eo : Eo W 6 (k + 3) e0) (w34 : W e0 = 34) (e0n : e0 ≤ n) (hNn : n ≤ Nn) (ec : ECq M (q + 1) p n W nq sm s.1 c (if l1 = 4 then 1 else 0) E Cf) (hkd : mI M1 q 8 = kdq W E 0 (k + 3) e0) (kn : CT M (q + 1) p s.1 → s.1.length = c → knf sm pl s.1 (k + 1) f2) (hFT : FT M1 (q + 1) (fst9 (fst9 (fst9 s.2.2 (if F < 60 then (0, 0) else (5, pl k))) f2) (fl W E pl 0 (k + 3) e0))) (pL : mI M1 p 2 = ((L' + 1 : Nat) : Int)) (oL : mI M1 O L' = 0) (hc : Cd W Cf pl (mI M1 O) (mI M1 P) 0 0 0 (k + 3) e0 L L') (tx : txF M q p O P 0 M1) (q3 : mI M1 q 3 = ((k + 1 : Nat) : Int)) : nxq W 34 Nn k = e0 ∧ Cv G y_TR_settleNamed (d + 6) [vr q, vi l1] M1 (fun M' => itE M1 z q w T A B D N C n p O P K Ab Be Cm M' ∧ itZ q p (sN W pl nq sm Nn k s) M' ∧ mI M' (q + 1) 2 = ((a : Nat) : Int)) := by
  have wk : W k = 3 ∨ W k = 6 := by omega
  have ne : no34 W k e0 := (((no34.nil.sc (by omega)).sc (by rw [hw.1]; decide)).sc (by rw [hw.2]; decide)).eo eo
  have nx : nxq W 34 Nn k = e0 := nxq_34 ne w34 (by omega)
  refine ⟨nx, ?_⟩
  have eL : L' = e := by
    rw [hp] at pL
    omega
  subst eL
  have hnw : nw = k + 1 := by
    have := hn.1
    rw [q3] at this
    omega
  by_cases f0 : s.2.2.1 = 0
  · have cs := zs.2 f0
    have ct := cs.1
    obtain ⟨hl, eV, eF, eC⟩ := cs.len h0
    have F60 : F ≤ 60 := h.2.1.2.1.2
    have cs1 := cs.tx tx.2
    have ec1 := ec.fw ct tx.2
    have e9 : E = E9 sm s.1 (if W k = 3 then 1 else 0) := by
      have u := (ec.2 ct hl).1
      by_cases w3 : W k = 3
      · rw [if_pos (show l1 = 4 by omega), if_neg (by decide)] at u
        rw [if_pos w3]
        exact u
      · rw [if_neg (show ¬ l1 = 4 by omega), if_pos rfl] at u
        rw [if_neg w3]
        exact u
    have kn := kn ct hl
    rw [fst9_zr f0] at hFT
    obtain ⟨p1, p2⟩ := itc_r (W := W) (pl := pl) (nq := nq) (sm := sm) (k := k) (e := e0) (s := s) (nF := F) (f := fl W E pl 0 (k + 3) e0) (v := vlq W (cv9 W nq sm s.1) pl 0 0 (k + 3) e0) rfl (by rw [e9]) rfl eF F60 kn
    have es := sN_r (pl := pl) (nq := nq) (sm := sm) f0 wk nx
    rw [← es, ← e9] at p2
    rw [← es] at p1
    generalize sN W pl nq sm Nn k s = s' at p1 p2 ⊢
    refine x_TR_settleNamed (k0 := k) (e0 := e0) (s := s) (s' := s') (v := vlq W (cv9 W nq sm s.1) pl 0 0 (k + 3) e0) hFx h4 h y60 cd hp ha han hLa hd hn h8 h21 wt hnw cs1 ec1 hkd eo e0n hc oL hFT (fun u => (fst9_1.mp u).2) rfl (fun u l4 => ?_) p1 (fun u l4 v1 => (p2 u).1 (by omega) v1) (fun u v0 => ?_)
    · subst l4
      have h9 : ∀ i, i < c → mI M1 (q + 1 + 9) i = 0 ∨ mI M1 (q + 1 + 9) i = 1 := fun i hi => (h.2.1.2.2.1.2.2 i hi).2.2
      have lf := lf_ex wt ec1 cs1.1 hl h9
      have g := vl_ok (pl := pl) (fun k a b => (lf k a b).1) _ 0 (k + 3) e0 (Nat.le_refl _) (Or.inl ⟨rfl, eo⟩) (fst9_1.mp u).2 (fun u => absurd u (by first | decide | simp)) 0
      rw [cv_eq e0n eo] at g
      exact g
    · by_cases w3 : W k = 3
      · have l4 : l1 = 4 := by omega
        have r := (p2 u).2 (fun _ => v0 l4)
        rw [if_pos w3, if_pos w3] at r
        rw [if_pos l4, if_pos l4]
        exact r
      · have l4 : ¬ l1 = 4 := by omega
        have r := (p2 u).2 (fun x => absurd x w3)
        rw [if_neg w3, if_neg w3] at r
        rw [if_neg l4, if_neg l4]
        exact r
  · rw [sN_n f0]
    rw [fst9_n f0, fst9_n f0, fst9_n f0] at hFT
    exact x_TR_settleNamed_bad h4 h cd.2.2.2.2.2 hp ha han hLa hd hFT f0 rfl
end TXX
end
section
/-! The class's reader of texts, exactly: a var as an item. -/
section TXY
variable {G : mG} {d z q w T A B D N C n p O P K Ab Be Cm V F c L cnt a nw k e i j b Nn sl x y : Nat} {M0 M M' M1 M2 : mM} {ns : Nat → Int} {sf ef : Nat → Nat} {H : Nat → Nat} {W pl nq E : Nat → Int} {Cf : Nat → Int × Int} {sm : Nat → Nat → Prop} {s s' : st9} {ft f2 X I : Int × Int} {tr : Int}
theorem ec_1 (ec : ECq M (q + 1) p n W nq sm s.1 c 1 E Cf) (ct : CT M (q + 1) p s.1) (hl : s.1.length = c) : E = E9 sm s.1 1 := by
  have u := (ec.2 ct hl).1
  rw [if_neg (by decide)] at u
  exact u
theorem rw_mk (wt : WTq M1 T A B D n W pl nq sm) (h : TX M1 z q w T A B D N C n p O P K Ab Be Cm V F ns sf ef c cnt L) (ec : ECq M (q + 1) p n W nq sm s.1 c 1 E Cf) (ct : CT M (q + 1) p s.1) (hl : s.1.length = c) (tx : txF M q p O P 0 M1) (rv : rvQz W pl Cf q O P k x y b M1) (eo : Eo W 6 x y) (hz : (vrf W E pl tr x y).1 = 0) : rwE W pl (cvn W nq sm s.1 n) q p O P b k x y tr M1 := by
  have h9 : ∀ i, i < c → mI M1 (q + 1 + 9) i = 0 ∨ mI M1 (q + 1 + 9) i = 1 := fun i hi => (h.2.1.2.2.1.2.2 i hi).2.2
  exact ⟨E, Cf, rv, lf_ex wt (ec.fw ct tx.2) (ct.tx tx.2) hl h9, eo, (vrf_z hz).1, (vrf_z hz).2⟩
theorem Eo.no9 {v : Int} (eo : Eo W 6 x y) (hv : v = 9 ∨ v = 16 ∨ v = 17) (h1 : x ≤ j) (h2 : j < y) : W j ≠ v := fun u => by
  have r := eo.rw9 h1 h2
  unfold rwd at r
  omega
theorem x_st_var (hFx : FMx G) (h0 : TX M z q w T A B D N C n p O P K Ab Be Cm V F ns sf ef c cnt L) (h : TX M1 z q w T A B D N C n p O P K Ab Be Cm V F ns sf ef c cnt L) (hv : vrS M1 q A n p L sl a nw V) (h8 : mI M1 q 8 = 0 → rvR M1 q O P F ns L sl 0 ∧ rvR M1 q O P F ns L sl 1) (h7 : mI M1 q 7 ≠ 0 → rvR M1 q O P F ns L sl 2) (zs : itZ q p s M) (wt : WTq M1 T A B D n W pl nq sm) (w4 : W k = 4) (hNn : n ≤ Nn) (va : vaV W pl nq sm M q p O P n c V k s.1 s.2.2 1 M1) : ∃ e, mI M1 (q + 1) 2 = ((e + 1 : Nat) : Int) ∧ Rc W [50] 0 [50] (e + 1) ∧ k ≤ e ∧ nxq W 34 Nn k = e ∧ Cv G y_TR_settleVar (d + 6) [vr q] M1 (fun M' => itE M1 z q w T A B D N C n p O P K Ab Be Cm M' ∧ itZ q p (sN W pl nq sm Nn k s) M' ∧ mI M' (q + 1) 2 = ((a : Nat) : Int)) := by
  obtain ⟨a', ea', va⟩ := va
  obtain ⟨-, ⟨w1, w33⟩, q3, rc, e, i, b, f2, X, I, ae, w34, ⟨pb, tx⟩, kn, hFT, bo, ini⟩ := va.resolve_left (fun u => absurd u.1 (by first | decide | simp))
  clear va
  have esl : sl = b := by
    have := hv.1
    rw [pb] at this
    omega
  have hnw : nw = k + 1 := by
    have := hv.2.2.2.2.2.2.1
    rw [q3] at this
    omega
  have een : e + 1 ≤ n := by
    have u1 := hv.2.2.2.1
    have u2 := hv.2.2.2.2.1
    rw [ea', ae] at u1
    clear bo ini
    omega
  subst esl
  have n3 : no34 W k (k + 3) := (((no34.nil : no34 W k k).sc (by rw [w4]; decide)).sc (by rw [w1]; decide)).sc (by rw [w33]; decide)
  have ni : no34 W k i := by
    rcases bo with ⟨w5, ei, -, -⟩ | ⟨-, -, j, E0, E1, C0, C1, eo0, w16, eo1, -⟩
    · rw [ei]
      exact n3.sc (by rw [w5]; decide)
    · exact ((n3.eo eo0).sc (by rw [w16]; decide)).eo eo1
  have ie : i ≤ e := by
    rcases ini with ⟨-, ei, -, -⟩ | ⟨-, -, E2, C2, eo2, -⟩
    · omega
    · have := eo2.pr.1
      omega
  have ne : no34 W k e := by
    rcases ini with ⟨-, ei, -, -⟩ | ⟨w9, -, E2, C2, eo2, -⟩
    · rw [← ei]
      exact ni
    · exact (ni.sc (by rw [w9]; decide)).eo eo2
  have nx : nxq W 34 Nn k = e := nxq_34 ne w34 (by
    clear bo ini
    omega)
  refine ⟨e, by rw [← ae]; exact ea', by rw [← ae]; exact rc, ne.1, nx, ?_⟩
  by_cases f0 : s.2.2.1 = 0
  · have cs := zs.2 f0
    have ct := cs.1
    obtain ⟨hl, eV, eF, eC⟩ := cs.len h0
    have V12 : V ≤ 12 := h.2.1.1.2
    have cs1 := cs.tx tx.2
    have kn := kn ct hl
    rw [fst9_zr f0] at hFT
    have bo' : ∃ j, (W (k + 3) ≠ 5 → nxq W 16 Nn (k + 3) = j) ∧ (mI M1 q 8 = if W (k + 3) = 5 then 1 else 0) ∧ (X = if W (k + 3) = 5 then (0, 0) else fst9 (rf9 W pl sm s.1 1 0 (k + 3) j) (rf9 W pl sm s.1 1 0 (j + 1) i)) ∧ ((if W (k + 3) = 5 then k + 4 else nxq W 9 (e - (k + 3)) (k + 3)) = i) ∧ (X.1 = 0 → mI M1 q 8 = 0 → rwE W pl (cvn W nq sm s.1 n) q p O P sl 0 (k + 3) j 0 M1 ∧ rwE W pl (cvn W nq sm s.1 n) q p O P sl 1 (j + 1) i 0 M1) ∧ (W (k + 3) ≠ 5 → vlq W (cvn W nq sm s.1 n) pl 0 0 (k + 3) j = vlq W (cv9 W nq sm s.1) pl 0 0 (k + 3) j ∧ vlq W (cvn W nq sm s.1 n) pl 0 0 (j + 1) i = vlq W (cv9 W nq sm s.1) pl 0 0 (j + 1) i) := by
      rcases bo with ⟨w5, ei, q8, eX⟩ | ⟨w5, q8, j, E0, E1, C0, C1, eo0, w16, eo1, ec0, ec1, eX, rv0, rv1⟩
      · exact ⟨0, fun u => absurd w5 u, by rw [if_pos w5]; exact q8, by rw [if_pos w5]; exact eX, by rw [if_pos w5]; exact ei.symm, fun _ u => by rw [q8] at u; exact absurd u (by first | decide | simp), fun u => absurd w5 u⟩
      · have a0 := eo0.pr.1
        have a1 := eo1.pr.1
        have x0 := ec_1 ec0 ct hl
        have x1 := ec_1 ec1 ct hl
        have eX' : X = fst9 (rf9 W pl sm s.1 1 0 (k + 3) j) (rf9 W pl sm s.1 1 0 (j + 1) i) := by
          rw [eX, x0, x1]
          rfl
        have no9 : ∀ t, k + 3 ≤ t → t < i → W t ≠ 9 := fun t t1 t2 => by
          by_cases c1 : t < j
          · exact eo0.no9 (Or.inl rfl) t1 c1
          · by_cases c2 : t = j
            · rw [c2, w16]; decide
            · exact eo1.no9 (Or.inl rfl) (by omega) t2
        refine ⟨j, fun _ => nxq_at (by omega) (by clear ini; omega) w16 (fun t t1 t2 => eo0.no9 (Or.inr (Or.inl rfl)) t1 t2), by rw [if_neg w5]; exact q8, by rw [if_neg w5]; exact eX', ?_, fun u _ => ?_, fun _ => ⟨cv_eq (by clear ini; omega) eo0, cv_eq (by clear ini; omega) eo1⟩⟩
        · rw [if_neg w5]
          rcases ini with ⟨-, ei, -, -⟩ | ⟨w9, -, E2, C2, eo2, -⟩
          · rw [nxq_no (fun t t1 t2 => no9 t t1 (by omega))]
            omega
          · exact nxq_at (by omega) (by omega) w9 no9
        · rw [eX] at u
          obtain ⟨u0, u1⟩ := fst9_1.mp u
          exact ⟨rw_mk wt h ec0 ct hl tx rv0 eo0 u0, rw_mk wt h ec1 ct hl tx rv1 eo1 u1⟩
    obtain ⟨j, hj, q8, eX, hi9, r01, vlo⟩ := bo'
    clear bo
    have ini' : (mI M1 q 7 = if W i = 9 then 1 else 0) ∧ (I = if W i = 9 then rf9 W pl sm s.1 1 (mI M1 q 8) (i + 1) e else (0, 0)) ∧ (I.1 = 0 → mI M1 q 7 ≠ 0 → rwE W pl (cvn W nq sm s.1 n) q p O P sl 2 (i + 1) e (mI M1 q 8) M1) ∧ (W i = 9 → vlq W (cvn W nq sm s.1 n) pl 0 0 (i + 1) e = vlq W (cv9 W nq sm s.1) pl 0 0 (i + 1) e) := by
      rcases ini with ⟨w9, ei, q7, eI⟩ | ⟨w9, q7, E2, C2, eo2, ec2, eI, rv2⟩
      · exact ⟨by rw [if_neg w9]; exact q7, by rw [if_neg w9]; exact eI, fun _ u => absurd q7 u, fun u => absurd u w9⟩
      · have x2 := ec_1 ec2 ct hl
        refine ⟨by rw [if_pos w9]; exact q7, ?_, fun u _ => ?_, fun _ => cv_eq (by omega) eo2⟩
        · rw [if_pos w9, eI, x2]
          rfl
        · rw [eI] at u
          exact rw_mk wt h ec2 ct hl tx rv2 eo2 u
    obtain ⟨q7, eI, r2, vbe⟩ := ini'
    clear ini
    obtain ⟨p1, p2⟩ := itc_v (W := W) (pl := pl) (nq := nq) (sm := sm) (Nn := Nn) (k := k) (e := e) (s := s) (nV := V) (t8 := mI M1 q 8) (i7 := mI M1 q 7) (lo := vlq W (cvn W nq sm s.1 n) pl 0 0 (k + 3) j) (hi := vlq W (cvn W nq sm s.1 n) pl 0 0 (j + 1) i) (be := vlq W (cvn W nq sm s.1 n) pl 0 0 (i + 1) e) eV V12 kn hi9 hj q8 q7 eX eI (fun u => (vlo u).1) (fun u => (vlo u).2) vbe
    have es := sN_v (pl := pl) (nq := nq) (sm := sm) f0 w4 nx
    rw [← es] at p1 p2
    generalize sN W pl nq sm Nn k s = s' at p1 p2 ⊢
    rw [← hnw] at p2
    have zX : ∀ {A B : Int × Int}, (fst9 (fst9 (fst9 A B) X) I).1 = 0 → X.1 = 0 ∧ I.1 = 0 := fun u => ⟨(fst9_1.mp (fst9_1.mp u).1).2, (fst9_1.mp u).2⟩
    exact x_TR_settleVar (x0 := k + 3) (y0 := j) (x1 := j + 1) (y1 := i) (x2 := i + 1) (y2 := e) (s := s) (s' := s') (cv := cvn W nq sm s.1 n) (W := W) (pl := pl) hFx h hv h8 h7 hFT (fun _ => cs1) (fun u v => r01 (zX u).1 v) (fun u v => r2 (zX u).2 v) rfl rfl rfl p1 (fun u v => (p2 u).1 v) (fun u v => (p2 u).2 v)
  · rw [sN_n f0]
    rw [fst9_n f0, fst9_n f0, fst9_n f0, fst9_n f0] at hFT
    exact x_TR_settleVar (x0 := 0) (y0 := 0) (x1 := 0) (y1 := 0) (x2 := 0) (y2 := 0) (s := s) (s' := s) (cv := cvn W nq sm s.1 n) (W := W) (pl := pl) hFx h hv h8 h7 hFT (fun u => absurd u f0) (fun u => absurd u f0) (fun u => absurd u f0) rfl rfl rfl (fun _ => rfl) (fun u => absurd u f0) (fun u => absurd u f0)
end TXY
end
section
/-! The class's reader of texts, exactly: a target and a command as items. -/
section TXZ
variable {G : mG} {d z q w T A B D N C n p O P K Ab Be Cm V F c L cnt a k e i j b Nn : Nat} {M0 M M' M1 M2 : mM} {ns : Nat → Int} {sf ef : Nat → Nat} {W pl nq E : Nat → Int} {Cf : Nat → Int × Int} {sm : Nat → Nat → Prop} {s s' : st9} {ft : Int × Int}
theorem itZ.mk (hF : FT M (q + 1) ft) (h1 : ft.1 ≠ 0 → s'.2.2 = ft) (h2 : ft.1 = 0 → s'.2.2 = (0, 0) ∧ CSm M q p s') : itZ q p s' M := by
  by_cases f0 : ft.1 = 0
  · obtain ⟨e1, e2⟩ := h2 f0
    refine ⟨?_, fun _ => e2⟩
    rw [e1]
    exact FT.zz (by rw [hF.1]; exact f0)
  · exact itZ.bad (by rw [h1 f0]; exact hF) (by rw [h1 f0]; exact f0)
theorem x_st_target (h0 : TX M z q w T A B D N C n p O P K Ab Be Cm V F ns sf ef c cnt L) (zs : itZ q p s M) (w11 : W k = 11) (hNn : n ≤ Nn) (ha : mI M1 (q + 1) 2 = ((a : Nat) : Int)) (han : a ≤ n) (tg : tgV W pl nq sm M q p n c k s.1 (fst9 s.2.2 (if mI M p 11 = -1 then (0, 0) else (4, pl k))) 1 M1) : ∃ e, mI M1 (q + 1) 2 = ((e + 1 : Nat) : Int) ∧ Rc W [50] 0 [50] (e + 1) ∧ k ≤ e ∧ nxq W 34 Nn k = e ∧ itZ q p (sN W pl nq sm Nn k s) M1 := by
  obtain ⟨a', ea', tg⟩ := tg
  obtain ⟨-, p11, e, E, Cf, ae, eo, w34, rc, ec, hFT, tk⟩ := tg.resolve_left (fun u => absurd u.1 (by first | decide | simp))
  clear tg
  have een : e + 1 ≤ n := by
    rw [ea', ae] at ha
    omega
  have ne : no34 W k e := ((no34.nil : no34 W k k).sc (by rw [w11]; decide)).eo eo
  have nx : nxq W 34 Nn k = e := nxq_34 ne w34 (by omega)
  refine ⟨e, by rw [← ae]; exact ea', rc, ne.1, nx, ?_⟩
  rw [fst9_as] at hFT
  by_cases f0 : s.2.2.1 = 0
  · have cs := zs.2 f0
    have ct := cs.1
    obtain ⟨hl, eV, eF, eC⟩ := cs.len h0
    have e9 : E = E9 sm s.1 0 := by
      have u := (ec.2 ct hl).1
      rw [if_pos rfl] at u
      exact u
    rw [fst9_zr f0, e9] at hFT
    have et : (if mI M p 11 = -1 then ((0 : Int), (0 : Int)) else (4, pl k)) = if s.2.1.2.2.2 = 0 then (0, 0) else (4, pl k) := by
      by_cases c1 : s.2.1.2.2.2 = 0
      · rw [if_pos c1, if_pos (cs.2.2.2.2.1.mpr c1)]
      · rw [if_neg c1, if_neg (fun u => c1 (cs.2.2.2.2.1.mp u))]
    rw [et] at hFT
    obtain ⟨p1, p2⟩ := itc_t (W := W) (pl := pl) (sm := sm) (k := k) (e := e) (s := s) rfl
    have es := sN_t (pl := pl) (nq := nq) (sm := sm) f0 w11 nx
    rw [es]
    refine itZ.mk hFT p1 (fun u => ?_)
    rw [p2 u]
    obtain ⟨c1, c2, c3, c4, c5, c6⟩ := cs
    refine ⟨rfl, c1.tg tk, ?_, ?_, ?_, ⟨fun v => absurd v p11, fun v => absurd v (by first | decide | simp)⟩, c6⟩
    · rw [tk.2.2.1 3 (by decide) (by decide)]; exact c2
    · rw [tk.2.2.1 7 (by decide) (by decide)]; exact c3
    · rw [tk.2.2.1 12 (by decide) (by decide)]; exact c4
  · rw [sN_n f0]
    rw [fst9_n f0, fst9_n f0] at hFT
    exact itZ.bad hFT f0
theorem x_st_cmd (h0 : TX M z q w T A B D N C n p O P K Ab Be Cm V F ns sf ef c cnt L) (zs : itZ q p s M) (w7 : W k = 7 ∨ W k = 8) (hNn : n ≤ Nn) (ha : mI M1 (q + 1) 2 = ((a : Nat) : Int)) (han : a ≤ n) (cc : ccV W pl nq sm Nn M q p c cnt k s.1 (fst9 s.2.2 (if cnt < 60 then (0, 0) else (5, pl k))) 1 M1) : ∃ e, mI M1 (q + 1) 2 = ((e + 1 : Nat) : Int) ∧ Rc W [50] 0 [50] (e + 1) ∧ k ≤ e ∧ nxq W 34 Nn k = e ∧ itZ q p (sN W pl nq sm Nn k s) M1 := by
  obtain ⟨a', ea', cc⟩ := cc
  obtain ⟨-, ar, ix, E, hix, eo, w17, hE, a2, ea2, cm⟩ := cc.resolve_left (fun u => absurd u.1 (by first | decide | simp))
  clear cc
  obtain ⟨-, e, fB, ae, w34, ne, rc, hFT, hB, k19, k69, kp, k6, k7⟩ := cm.resolve_left (fun u => absurd u.1 (by first | decide | simp))
  clear cm
  have een : e + 1 ≤ n := by
    rw [ea2, ae] at ha
    omega
  have nx : nxq W 34 Nn k = e := nxq_34 ne w34 (by
    clear hB
    omega)
  have ale : ar ≤ e := by
    have u := eo.pr.1
    by_cases c : ar ≤ e
    · exact c
    · have v := eo.rw9 (j := e) (by
        have := ne.1
        by_cases c2 : k = e
        · rw [← c2] at w34
          rcases w7 with x | x <;> rw [w34] at x <;> exact absurd x (by first | decide | simp)
        · omega) (by omega)
      unfold rwd at v
      rw [w34] at v
      clear hB
      omega
  have hr : nxq W 17 Nn (k + 1) = ar := nxq_at (Nat.le_of_lt eo.pr.1) (by
    clear hB
    omega) w17 (fun t t1 t2 => eo.no9 (Or.inr (Or.inr rfl)) t1 t2)
  refine ⟨e, by rw [← ae]; exact ea2, rc, ne.1, nx, ?_⟩
  by_cases f0 : s.2.2.1 = 0
  · have cs := zs.2 f0
    have ct := cs.1
    obtain ⟨hl, eV, eF, eC⟩ := cs.len h0
    have c60 : cnt ≤ 60 := h0.2.2.1.2
    have e9 := hE ct hl
    obtain ⟨b1, b2⟩ := hB ct hl
    rw [fst9_zr f0, e9] at hFT
    obtain ⟨p1, p2⟩ := itc_c (W := W) (pl := pl) (sm := sm) (Nn := Nn) (k := k) (e := e) (ar := ar) (s := s) (nC := cnt) (f := vrf W (E9 sm s.1 0) pl 1 (k + 1) ar) (fB := fB) eC c60 hr rfl b1 b2
    have es := sN_c (pl := pl) (nq := nq) (sm := sm) f0 w7 nx
    rw [es]
    refine itZ.mk hFT p1 (fun u => ?_)
    rw [p2 u]
    have c6' : cnt < 60 := by
      have v := (fst9_1.mp (fst9_1.mp u).1).1
      by_cases c1 : cnt < 60
      · exact c1
      · rw [if_neg c1] at v
        exact absurd v (by first | decide | simp)
    have eix := hix c6'
    obtain ⟨c1, c2, c3, c4, c5, c6⟩ := cs
    refine ⟨rfl, c1.cg k19 (k69 6 (by decide) (by decide)) (k69 7 (by decide) (by decide)) (k69 8 (by decide) (by decide)) (k69 9 (by decide) (by decide)) k6 k7, ?_, ?_, ?_, ?_, c6⟩
    · rw [kp 3 (by decide), if_neg (by decide)]; exact c2
    · rw [kp 7 (by decide), if_neg (by decide)]; exact c3
    · rw [kp 12 (by decide), if_pos rfl]
      show (ix : Int) + 1 = ((s.2.1.2.2.1 + 1 : Nat) : Int)
      clear hB hix c5
      omega
    · rw [kp 11 (by decide), if_neg (by decide)]; exact c5
  · rw [sN_n f0]
    rw [fst9_n f0, fst9_n f0, fst9_n f0] at hFT
    exact itZ.bad hFT f0
end TXZ
end
section
/-! The class's reader of texts, exactly: translate. -/
section TYA
variable {G : mG} {d z q w T A B D N C n p O P K Ab Be Cm V F c s0 L cnt a k e i f Nn Ab0 Be0 Cm0 : Nat} {M0 M M' M1 M2 : mM} {ns : Nat → Int} {sf ef : Nat → Nat} {W pl nq : Nat → Int} {sm : Nat → Nat → Prop} {s s' R : st9}
theorem TP.wtr (h : TP M z q w T A B D N C n p O P K Ab Be Cm) (f : FA (trS q p O P Ab Be) (fun x => x = q + 11) M M') (wt : WTq M T A B D n W pl nq sm) : WTq M' T A B D n W pl nq sm := by
  have key : ∀ x, (x = w ∨ x = T ∨ x = A ∨ x = B ∨ x = D) → mI M' x = mI M x := fun x hx => by
    have ap := h.apart
    obtain ⟨⟨-, -, -, -, -, b6, -⟩, -, -, -, -, ⟨-, -, s3⟩, -⟩ := h
    obtain ⟨u1, u2, u3, u4⟩ := s3 x hx
    have v := b6.2.2 x hx
    refine (f.2 x u4).2.2.2.2 (fun y => ?_)
    rcases y with y | y
    · have y' : (q ≤ x ∧ x ≤ q + 10) ∨ x = q + 21 ∨ x = q + 22 ∨ x = p ∨ (p + 3 ≤ x ∧ x ≤ p + 15) ∨ x = O ∨ x = P := y
      clear f wt
      omega
    · have y' : x = q + 11 ∨ x = q + 11 + 2 ∨ (q + 11 + 5 ≤ x ∧ x ≤ q + 11 + 9) ∨ x = Ab ∨ x = Be := y
      clear f wt
      omega
  exact wt.cg (key T (Or.inr (Or.inl rfl))) (key A (Or.inr (Or.inr (Or.inl rfl)))) (key B (Or.inr (Or.inr (Or.inr (Or.inl rfl))))) (key D (Or.inr (Or.inr (Or.inr (Or.inr rfl)))))
theorem itE.fa (h : itE M0 z q w T A B D N C n p O P K Ab0 Be0 Cm0 M') : FA (trS q p O P Ab0 Be0) (fun x => x = q + 11) M0 M' := by
  obtain ⟨_, _, _, _, _, _, _, _, _, _, _, _, -, -, -, -, -, -, h⟩ := h
  exact h.1
theorem rc50 (h : W a = 0) : Rc W [50] a [] (a + 1) := Rc.one (mst_n (by decide) (by decide) (ys := []) (t := 1) (by
  show ex50 (W a) = _
  unfold ex50
  rw [if_pos h]) (Or.inl (by decide)))
theorem rf50 (h : 0 ≤ W a ∧ W a ≤ 39) (h0 : W a ≠ 0) (h4 : W a ≠ 4) (h11 : W a ≠ 11) (h7 : ¬ (W a = 7 ∨ W a = 8)) (h3 : ¬ (W a = 3 ∨ W a = 6)) : Rf W [50] a a := Rf.of (mst_no (by decide) (by decide) (by
  show ex50 (W a) = _
  unfold ex50
  rw [if_neg h0, if_neg h3, if_neg h4, if_neg h7, if_neg h11]))
/-- the items so far: i of them, the next begins at a -/
def tlJ (T A B D n : Nat) (W pl nq : Nat → Int) (sm : Nat → Nat → Prop) (Nn q p : Nat) (R : st9) (i a : Nat) (M : mM) : Prop := WTq M T A B D n W pl nq sm ∧ Rc W [50] 0 [50] a ∧ i ≤ a ∧ ∃ s : st9, itZ q p s M ∧ (s.2.2.1 = 0 → R = its9 W pl nq sm Nn 60 (Nn - i) a s) ∧ (s.2.2.1 ≠ 0 → R.2.2 = s.2.2)
theorem its_next (h1 : s.2.2.1 = 0 → R = its9 W pl nq sm Nn 60 (Nn - i) a s) (h2 : s.2.2.1 ≠ 0 → R.2.2 = s.2.2) (wa : W a ≠ 0) (nx : nxq W 34 Nn a = e) (hi : i < Nn) : ((sN W pl nq sm Nn a s).2.2.1 = 0 → R = its9 W pl nq sm Nn 60 (Nn - (i + 1)) (e + 1) (sN W pl nq sm Nn a s)) ∧ ((sN W pl nq sm Nn a s).2.2.1 ≠ 0 → R.2.2 = (sN W pl nq sm Nn a s).2.2) := by
  by_cases f0 : s.2.2.1 = 0
  · have r := h1 f0
    obtain ⟨f, hf⟩ : ∃ f, Nn - i = f + 1 := ⟨Nn - i - 1, by omega⟩
    have hf2 : Nn - (i + 1) = f := by omega
    have es : sN W pl nq sm Nn a s = ite9 W pl nq sm Nn 60 a s := if_neg (fun u => u f0)
    rw [hf, its9, if_neg (fun u => u f0), if_neg wa, nx, ← es] at r
    rw [hf2]
    refine ⟨fun _ => r, fun u => ?_⟩
    have r2 : its9 W pl nq sm Nn 60 f (e + 1) (sN W pl nq sm Nn a s) = sN W pl nq sm Nn a s := by
      cases f with
      | zero => rfl
      | succ f => rw [its9, if_pos u]
    rw [r, r2]
  · rw [sN_n f0]
    exact ⟨fun u => absurd u f0, fun _ => h2 f0⟩
theorem its_over (h1 : s.2.2.1 = 0 → R = its9 W pl nq sm Nn 60 (Nn - i) a s) (f0 : s.2.2.1 = 0) (wa : W a = 0) (hi : i < Nn) : R = if s.2.1.2.2.2 = 0 then (s.1, s.2.1, (10, pl a)) else s := by
  have r := h1 f0
  obtain ⟨f, hf⟩ : ∃ f, Nn - i = f + 1 := ⟨Nn - i - 1, by omega⟩
  rw [hf, its9, if_neg (fun u => u f0), if_pos wa] at r
  exact r
/-- what translate comes to, exactly -/
def tlV (W pl : Nat → Int) (n q p : Nat) (R : st9) (x : Int) (M' : mM) : Prop := (x = 1 ∧ ∃ q9 : Nat, Rf W [50] 0 q9 ∧ q9 ≤ n ∧ mI M' (q + 1) 4 = pl q9) ∨ ((∃ a, Rc W [50] 0 [] (a + 1)) ∧ FT M' (q + 1) R.2.2 ∧ (R.2.2.1 = 0 → CSm M' q p R))
/-- an item does not stand -/
theorem x_tl_not (h : nstQ z q w T A B D N C n p O P K Ab Be Cm V F ns sf ef c cnt L M) (hf : trF M0 q p O P Ab0 Be0 Cm0 M Ab Be Cm) (wt : WTq M T A B D n W pl nq sm) {q9 : Nat} (e9 : mI M (q + 1) 2 = ((q9 : Nat) : Int)) (rf : Rf W [50] 0 q9) : mK M q = 3 ∧ mK M (mR M q 0) = 4 ∧ ∀ M93, M93 = mUI M (mR M q 0) 3 1 → mK M93 (mR M93 q 0) = 4 ∧ Ci G y_RR_here d [vr (mR M93 q 0)] M93 (fun x97 M96 => i32 x97 ∧ mOk M96 ∧ (mK M96 (mR M93 q 0) = 4 ∧ ∀ M100, M100 = mUI M96 (mR M93 q 0) 4 x97 → (tlQ M0 z q w T A B D N C n p O P K Ab0 Be0 Cm0 1 M100 ∧ tlV W pl n q p R 1 M100))) := by
  obtain ⟨h1, a, a1, a2⟩ := h
  obtain ⟨t0, t1, t2, t3, t4, t5⟩ := h1.1.2.1
  have ap := h1.1.apart
  have qp := h1.1.2.2.2.2.2.1.2.1
  have ne1 : O ≠ q + 1 ∧ P ≠ q + 1 ∧ p ≠ q + 1 ∧ ∀ i, 3 ≤ i → i ≤ 15 → p + i ≠ q + 1 := by
    refine ⟨by omega, by omega, by omega, fun i _ _ => by omega⟩
  clear ap qp
  rw [t1]
  have gen : ∀ {Mx My : mM} {j : Nat} {x : Int}, TX Mx z q w T A B D N C n p O P K Ab Be Cm V F ns sf ef c cnt L → i32 x → My = mUI Mx (q + 1) j x → (j = 3 ∧ x ≠ 0) ∨ j = 4 → TX My z q w T A B D N C n p O P K Ab Be Cm V F ns sf ef c cnt L ∧ FI (txS q p O P) Mx My ∧ (∀ i, mI My (q + 1) i = if i = j then x else mI Mx (q + 1) i) := fun {Mx My j x} hx ix e hj => by
    have f : FI (fun y => y = q + 1) Mx My := by rw [e]; exact FI.ui rfl
    have nb : ∀ y, y ≠ q + 1 → mI My y = mI Mx y := fun y hy => f.2.2.2.2.2.2 y hy
    have ir : ∀ i, mI My (q + 1) i = if i = j then x else mI Mx (q + 1) i := fun i => by
      rw [mI_ui _ i e]
      by_cases y : i = j
      · rw [if_pos ⟨rfl, y⟩, if_pos y]
      · rw [if_neg (fun t => y t.2), if_neg y]
    have fx : FI (txS q p O P) Mx My := f.mono (fun y hy => Or.inl (by have hy' : y = q + 1 := hy; omega))
    have o : mOk My := by rw [e]; exact mOk_UI hx.1.1.1 ix
    refine ⟨hx.tx o ⟨fx, fun i _ i3 i4 _ _ _ _ _ => by rw [ir, if_neg (by omega)], fun y => ?_, fun i _ _ => nb _ (by omega), fun i _ => by rw [nb p ne1.2.2.1], fun i h3 h15 => nb _ (ne1.2.2.2 i h3 h15), fun i _ => ⟨by rw [nb O ne1.1], by rw [nb P ne1.2.1]⟩⟩ (fun y => by rw [nb _ (by omega)]; exact hx.2.1.2.2.2 y), fx, ir⟩
    rw [ir]
    rcases hj with ⟨j3, x0⟩ | j4
    · rw [if_pos j3.symm]; exact x0
    · rw [if_neg (by omega)]; exact y
  refine ⟨t0, h1.1.1.2.1.1, fun M93 e93 => ?_⟩
  obtain ⟨h93, f93, i93⟩ := gen h1 ⟨by decide, by decide⟩ e93 (Or.inl ⟨rfl, by decide⟩)
  rw [h93.1.2.1.2.1]
  refine ⟨h93.1.1.2.1.1, (s_RR_here h93.1.1 (a := a) (by rw [i93, if_neg (by decide)]; exact a1) a2).mono (fun x97 M96 k => ?_)⟩
  obtain ⟨e96, ex97, x0, x1⟩ := k
  have a9 : a = q9 := by
    rw [a1] at e9
    omega
  have eB : x97 = pl q9 := by rw [ex97, ((wt.fi h1.1 f93).1 a a2).2.2, a9]
  subst e96
  refine ⟨i32s (by omega) (by omega), h93.1.1.1, h93.1.1.2.1.1, fun M100 e100 => ?_⟩
  obtain ⟨h100, f100, i100⟩ := gen h93 (i32s (by omega) (by omega)) e100 (Or.inr rfl)
  exact ⟨⟨Ab, Be, Cm, V, F, ns, sf, ef, c, cnt, L, h100, (hf.trans (trF.fi f93)).trans (trF.fi f100), by rw [i100, if_neg (by decide), i93, if_pos rfl], fun u => absurd u (by first | decide | simp)⟩, Or.inl ⟨rfl, q9, rf, by omega, by rw [i100, if_pos rfl]; exact eB⟩⟩
/-- the loop over the items -/
theorem x_tl41 (hF : FMx G) (hNn : n + 1 ≤ Nn) : ∀ (t i : Nat) (M : mM) (Ab Be Cm V F : Nat) (ns : Nat → Int) (sf ef : Nat → Nat) (c cnt L a : Nat), n + 1 ≤ i + t → i ≤ n + 1 → TX M z q w T A B D N C n p O P K Ab Be Cm V F ns sf ef c cnt L → mI M p 2 = ((L : Nat) : Int) → mI M (q + 1) 2 = ((a : Nat) : Int) → a ≤ n → L ≤ a → mI M (q + 1) 5 = 0 → trF M0 q p O P Ab0 Be0 Cm0 M Ab Be Cm → tlJ T A B D n W pl nq sm Nn q p R i a M → h_TR_translate_41 G (d + 7) q w i M (fun x M' => tlQ M0 z q w T A B D N C n p O P K Ab0 Be0 Cm0 x M' ∧ tlV W pl n q p R x M') := by
  intro t
  induction t with
  | zero =>
    intro i M Ab Be Cm V F ns sf ef c cnt L a ht hi h hp ha han hLa hd hf J
    exact absurd J.2.2.1 (by omega)
  | succ t ih =>
    intro i M Ab Be Cm V F ns sf ef c cnt L a ht hi h hp ha han hLa hd hf J
    obtain ⟨wt, hR, hia, s, zs, js1, js2⟩ := J
    have hN : n ≤ 16384 := by have := h.1.1.2.2.2.1.2.2.1; have := h.1.1.2.2.2.1.1.2.2.2.2.2.2.1; omega
    obtain ⟨t0, t1, t2, t3, t4, t5⟩ := h.1.2.1
    obtain ⟨⟨w1, ⟨p0, p3, -⟩, -, ⟨kA, -⟩, ⟨cA, -⟩, w6, w7, w8, -⟩, w2, hnN, hw, hA, hB⟩ := id h.1.1.2.2.2.1
    refine k_TR_translate_41 h.1.1.1 (i32s (by omega) (by omega)) ?_
    rw [w2, t1, t3, w6, p3, cA, ha, Int.toNat_natCast]
    have fin : i < n + 1 → ∀ {M1 : mM}, itE M0 z q w T A B D N C n p O P K Ab0 Be0 Cm0 M1 → (∃ a', mI M1 (q + 1) 2 = ((a' : Nat) : Int) ∧ tlJ T A B D n W pl nq sm Nn q p R (i + 1) a' M1) → h_TR_translate_218 G (d + 7) q w i M1 (fun x M' => tlQ M0 z q w T A B D N C n p O P K Ab0 Be0 Cm0 x M' ∧ tlV W pl n q p R x M') := fun hi1 {M1} hE hJ => by
      obtain ⟨Ab1, Be1, Cm1, V1, F1, ns1, sf1, ef1, c1, cnt1, L1, a1, e1, e2, e3, e4, e5, e6, e7⟩ := hE
      obtain ⟨a', ea', hJ⟩ := hJ
      have eaa : a' = a1 := by
        rw [e3] at ea'
        omega
      subst eaa
      refine k_TR_translate_218 e1.1.1.1 (i32s (by omega) (by omega)) ?_
      rw [show ((i : Int) + 1) = ((i + 1 : Nat) : Int) by omega]
      exact ih (i + 1) M1 Ab1 Be1 Cm1 V1 F1 ns1 sf1 ef1 c1 cnt1 L1 a' (by omega) (by omega) e1 e2 e3 e4 e5 e6 e7 hJ
    have nst : ∀ {l4 : Int} {M1 : mM} {cnt1 L1 : Nat}, i32 l4 → nstQ z q w T A B D N C n p O P K Ab Be Cm V F ns sf ef c cnt1 L1 M1 → FI (txS q p O P) M M1 → (∃ q9 : Nat, mI M1 (q + 1) 2 = q9 ∧ Rf W [50] 0 q9) → h_TR_translate_155 G (d + 7) q w i l4 0 M1 (fun x M' => tlQ M0 z q w T A B D N C n p O P K Ab0 Be0 Cm0 x M' ∧ tlV W pl n q p R x M') := fun {l4 M1 cnt1 L1} il hn fi ⟨q9, e9, rf9'⟩ => k_TR_translate_155 hn.1.1.1.1 (i32s (by omega) (by omega)) il (i32s (by omega) (by omega)) ⟨fun _ => x_tl_not hn (hf.trans (trF.fi fi)) (wt.fi h.1 fi) e9 rf9', fun y => absurd rfl y⟩
    have itr' : ∀ {M1 M2 : mM}, FI (txS q p O P) M M1 → itE M1 z q w T A B D N C n p O P K Ab Be Cm M2 → itE M0 z q w T A B D N C n p O P K Ab0 Be0 Cm0 M2 := fun {M1 M2} fi hE => by
      obtain ⟨Ab1, Be1, Cm1, V1, F1, ns1, sf1, ef1, c1, cnt1, L1, a1, e1, e2, e3, e4, e5, e6, e7⟩ := hE
      exact ⟨Ab1, Be1, Cm1, V1, F1, ns1, sf1, ef1, c1, cnt1, L1, a1, e1, e2, e3, e4, e5, e6, (hf.trans (trF.fi fi)).trans e7⟩
    have wE : mI M A a = 0 → a = n ∧ W a = 0 := fun u => by
      refine ⟨?_, ?_⟩
      · by_cases c1 : a = n
        · exact c1
        · have := (hw a (by omega)).1.1
          omega
      · obtain ⟨v1, v2, -⟩ := wt.1 a han
        exact (csq_w v1).2.1.mp (by rw [← v2]; exact u)
    have nxt : ∀ {e : Nat} {M2 : mM}, W a ≠ 0 → nxq W 34 Nn a = e → a ≤ e → Rc W [50] 0 [50] (e + 1) → WTq M2 T A B D n W pl nq sm → itZ q p (sN W pl nq sm Nn a s) M2 → tlJ T A B D n W pl nq sm Nn q p R (i + 1) (e + 1) M2 := fun {e M2} wa nx ae rc wt2 z2 => by
      obtain ⟨g1, g2⟩ := its_next (pl := pl) (nq := nq) (sm := sm) js1 js2 wa nx (show i < Nn by omega)
      exact ⟨wt2, rc, by omega, _, z2, g1, g2⟩
    refine ⟨w1, fun _ => ⟨t0, h.1.1.2.1.1, kA, by omega⟩, fun yE => ⟨t0, h.1.1.2.2.2.2.1.1, fun y => ⟨h.1.1.2.1.1, (x_tx_note (x := 10) (i32s (by omega) (by omega)) (by omega) (i32s (by omega) (by omega)) h).mono (fun M32 k => ?_)⟩, fun y => ?_⟩, fun y => ?_⟩
    · obtain ⟨o32, h32, x32, u3, u4, u5, u6⟩ := k
      obtain ⟨an, wa⟩ := wE (yE.resolve_left (by omega))
      have F32 := u6 _ zs.1
      rw [show ((N : Nat) : Int) = pl a by rw [← (wt.1 a han).2.2, an]; exact hB.symm] at F32
      have Rf9 : FT M32 (q + 1) R.2.2 ∧ R.2.2.1 ≠ 0 := by
        by_cases f0 : s.2.2.1 = 0
        · have ct := (zs.2 f0).2.2.2.2.1.mp y
          have r := its_over js1 f0 wa (show i < Nn by omega)
          rw [if_pos ct] at r
          rw [fst9_zr f0] at F32
          rw [r]
          exact ⟨F32, by simp⟩
        · rw [fst9_n f0] at F32
          rw [js2 f0]
          exact ⟨F32, f0⟩
      refine ⟨o32, k_TR_translate_248 o32 ⟨h32.1.2.1.1, by rw [h32.1.2.1.2.1]; exact h32.1.1.2.1.1, ?_⟩⟩
      rw [h32.1.2.1.2.1]
      exact ⟨⟨Ab, Be, Cm, V, F, ns, sf, ef, c, cnt, L, h32, hf.trans (trF.fi x32.1), rfl, fun u => absurd u u3⟩, Or.inr ⟨⟨a, hR.trans (rc50 wa)⟩, Rf9.1, fun u => absurd u Rf9.2⟩⟩
    · obtain ⟨an, wa⟩ := wE (yE.resolve_left (by omega))
      refine k_TR_translate_248 h.1.1.1 ⟨t0, by rw [t1]; exact h.1.1.2.1.1, ?_⟩
      rw [t1]
      refine ⟨⟨Ab, Be, Cm, V, F, ns, sf, ef, c, cnt, L, h, hf, rfl, fun _ => ⟨y, hp, by omega⟩⟩, Or.inr ⟨⟨a, hR.trans (rc50 wa)⟩, ?_⟩⟩
      by_cases f0 : s.2.2.1 = 0
      · have r := its_over js1 f0 wa (show i < Nn by omega)
        rw [if_neg (fun u => y ((zs.2 f0).2.2.2.2.1.mpr u))] at r
        rw [r]
        exact ⟨zs.1, zs.2⟩
      · rw [js2 f0]
        exact ⟨zs.1, fun u => absurd u f0⟩
    · have i1n : i < n + 1 := by
        by_cases u : ((n : Int) + 1 ≤ i)
        · exact absurd (Or.inl u) y
        · omega
      have y0 : mI M A a ≠ 0 := fun u => y (Or.inr u)
      have wA := wt.1 a han
      have wa : W a ≠ 0 := fun u => y0 (by rw [wA.2.1, u]; rfl)
      have an : a < n := by
        have : a ≠ n := fun u => y0 (by rw [u]; exact hA)
        omega
      have il := (h.1.1.1 A a).1
      have fin' := fun {M1 : mM} => fin i1n (M1 := M1)
      clear fin y
      have eS : ∀ {y : Int}, 1 ≤ y → y ≤ 38 → mI M A a = y + 1 → W a = y := fun h1 h2 u => (wt.is han h1 h2).mp u
      refine ⟨t0, h.1.1.2.1.1, kA, by omega, fun y5 => ?_, fun y5 => ⟨fun y12 => ?_, fun y12 => ⟨fun y8 => ?_, fun y8 => ⟨fun y4 => ?_, fun y4 => ?_⟩⟩⟩⟩
      · have w4 : W a = 4 := eS (by decide) (by decide) y5
        refine (x_TR_readVar (nms := s.1) h ha an hp hLa hd wt zs.1 w4 hR).mono (fun x M1 k => ?_)
        obtain ⟨⟨f1, k1⟩, va⟩ := k
        have wt1 : WTq M1 T A B D n W pl nq sm := wt.fi h.1 f1
        rcases k1 with ⟨e, u⟩ | ⟨e, h1, sl, a', nw, u1, u2, u3⟩
        · rw [e] at va ⊢
          exact ⟨⟨by decide, by decide⟩, u.1.1.1.1, nst il u f1 (by obtain ⟨b, eb, v⟩ := va; exact ⟨b, eb, (v.resolve_right (fun t => absurd t.1 (by first | decide | simp))).2⟩)⟩
        · rw [e] at va ⊢
          obtain ⟨e9, ee9, rc9, ae9, nx9, cv9'⟩ := x_st_var (G := G) (d := d + 1) hF h h1 u1 u2 u3 zs wt1 w4 (show n ≤ Nn by omega) va
          have ea9 : a' = e9 + 1 := by
            have t := u1.2.2.2.1
            rw [ee9] at t
            omega
          refine ⟨⟨by decide, by decide⟩, h1.1.1.1, k_TR_translate_155 h1.1.1.1 (i32s (by omega) (by omega)) il (i32s (by omega) (by omega)) ⟨fun t => absurd t (by first | decide | simp), fun _ => ⟨fun _ => ⟨h1.1.2.1.1, cv9'.mono (fun M2 k => ?_)⟩, fun t => absurd y5 t⟩⟩⟩
          have hE := itr' f1 k.1
          exact ⟨by obtain ⟨_, _, _, _, _, _, _, _, _, _, _, _, e1, -⟩ := hE; exact e1.1.1.1, fin' hE ⟨e9 + 1, by rw [← ea9]; exact k.2.2, nxt wa nx9 ae9 rc9 (h1.1.wtr k.1.fa wt1) k.2.1⟩⟩
      · have w11 : W a = 11 := eS (by decide) (by decide) y12
        refine (x_TR_readTarget (nms := s.1) h ha an hp hLa hd wt zs.1 w11 hR).mono (fun x M1 k => ?_)
        obtain ⟨⟨f1, k1⟩, tv⟩ := k
        have wt1 : WTq M1 T A B D n W pl nq sm := wt.fi h.1 f1
        rcases k1 with ⟨e, L1, u⟩ | ⟨e, L1, a', h1, u1, u2, u3, u4, u5⟩
        · rw [e] at tv ⊢
          exact ⟨⟨by decide, by decide⟩, u.1.1.1.1, nst il u f1 (by obtain ⟨b, eb, v⟩ := tv; exact ⟨b, eb, (v.resolve_right (fun t => absurd t.1 (by first | decide | simp))).2⟩)⟩
        · rw [e] at tv ⊢
          obtain ⟨e9, ee9, rc9, ae9, nx9, z9⟩ := x_st_target (nq := nq) h zs w11 (show n ≤ Nn by omega) u2 u3 tv
          exact ⟨⟨by decide, by decide⟩, h1.1.1.1, k_TR_translate_155 h1.1.1.1 (i32s (by omega) (by omega)) il (i32s (by omega) (by omega)) ⟨fun t => absurd t (by first | decide | simp), fun _ => ⟨fun t => absurd t y5, fun _ => ⟨fun t => absurd t (by omega), fun _ => fin' ⟨Ab, Be, Cm, V, F, ns, sf, ef, c, cnt, L1, a', h1, u1, u2, u3, u4, u5, hf.trans (trF.fi f1)⟩ ⟨e9 + 1, ee9, nxt wa nx9 ae9 rc9 wt1 z9⟩⟩⟩⟩⟩
      · have w7 : W a = 7 ∨ W a = 8 := y8.imp (fun u => eS (by decide) (by decide) u) (fun u => eS (by decide) (by decide) u)
        refine (x_TR_readCommand (Nn := Nn) (nms := s.1) il h ha an hp hLa hd (show n ≤ Nn by omega) wt zs.1 w7 hR).mono (fun x M1 k => ?_)
        obtain ⟨⟨f1, k1⟩, tv⟩ := k
        have wt1 : WTq M1 T A B D n W pl nq sm := wt.fi h.1 f1
        rcases k1 with ⟨e, L1, cnt1, u⟩ | ⟨e, L1, cnt1, a', h1, u1, u2, u3, u4, u5⟩
        · rw [e] at tv ⊢
          exact ⟨⟨by decide, by decide⟩, u.1.1.1.1, nst il u f1 (by obtain ⟨b, eb, v⟩ := tv; exact ⟨b, eb, (v.resolve_right (fun t => absurd t.1 (by first | decide | simp))).2⟩)⟩
        · rw [e] at tv ⊢
          obtain ⟨e9, ee9, rc9, ae9, nx9, z9⟩ := x_st_cmd h zs w7 (show n ≤ Nn by omega) u2 u3 tv
          exact ⟨⟨by decide, by decide⟩, h1.1.1.1, k_TR_translate_155 h1.1.1.1 (i32s (by omega) (by omega)) il (i32s (by omega) (by omega)) ⟨fun t => absurd t (by first | decide | simp), fun _ => ⟨fun t => absurd t y5, fun _ => ⟨fun t => absurd t (by omega), fun _ => fin' ⟨Ab, Be, Cm, V, F, ns, sf, ef, c, cnt1, L1, a', h1, u1, u2, u3, u4, u5, hf.trans (trF.fi f1)⟩ ⟨e9 + 1, ee9, nxt wa nx9 ae9 rc9 wt1 z9⟩⟩⟩⟩⟩
      · have w36 : W a = 3 ∨ W a = 6 := y4.imp (fun u => eS (by decide) (by decide) u) (fun u => eS (by decide) (by decide) u)
        have hl1 : mI M A a = W a + 1 := by
          rcases y4 with u | u
          · rw [u, eS (y := 3) (by decide) (by decide) u]; rfl
          · rw [u, eS (y := 6) (by decide) (by decide) u]; rfl
        refine (x_TR_readNamed (nms := s.1) y4 h ha an hp hLa hd wt zs.1 w36 hR).mono (fun x M1 k => ?_)
        obtain ⟨⟨f1, k1⟩, nv⟩ := k
        have wt1 : WTq M1 T A B D n W pl nq sm := wt.fi h.1 f1
        rcases k1 with ⟨e, u⟩ | ⟨e, h1, u0, e', a', nw, H, u1, u2, u3, u4, u5, u6, u7, u8, u9, u10, u11⟩
        · rw [e] at nv ⊢
          exact ⟨⟨by decide, by decide⟩, u.1.1.1.1, fun _ => nst il u f1 (by obtain ⟨b, eb, v⟩ := nv; exact ⟨b, eb, (v.resolve_right (fun t => absurd t.1 (by first | decide | simp))).2⟩), fun t => absurd rfl t⟩
        · rw [e] at nv ⊢
          obtain ⟨b9, eb9, nv⟩ := nv
          obtain ⟨-, nw2, e9, E9', C9, L9, f9, v1, v2, v3, v4, v5, v6, v7, v8, v9, v10, v11, v12, v13⟩ := nv.resolve_left (fun t => absurd t.1 (by first | decide | simp))
          clear nv
          have ea9 : a' = e9 + 1 := by
            rw [u3, v1] at eb9
            omega
          obtain ⟨nx9, cv9'⟩ := x_st_named (G := G) (d := d + 1) hF y4 hl1 h h1 u0 u1 u2 u3 u4 u5 u6 ⟨u7, u8, u9⟩ u10 u11 zs wt1 nw2 v2 v3 (by omega) (show n ≤ Nn by omega) v5 v6 v7 v8 v9 v10 v11 v12 v13
          have ae9 : a ≤ e9 := by
            have := v2.pr.1
            omega
          refine ⟨⟨by decide, by decide⟩, h1.1.1.1, fun t => absurd t (by first | decide | simp), fun _ => k_TR_translate_155 h1.1.1.1 (i32s (by omega) (by omega)) il (i32s (by omega) (by omega)) ⟨fun t => absurd t (by first | decide | simp), fun _ => ⟨fun t => absurd t y5, fun _ => ⟨fun _ => ⟨h1.1.2.1.1, cv9'.mono (fun M2 k => ?_)⟩, fun t => absurd y4 t⟩⟩⟩⟩
          have hE := itr' f1 k.1
          exact ⟨by obtain ⟨_, _, _, _, _, _, _, _, _, _, _, _, e1, -⟩ := hE; exact e1.1.1.1, fin' hE ⟨e9 + 1, by rw [← ea9]; exact k.2.2, nxt wa nx9 ae9 v4 (h1.1.wtr k.1.fa wt1) k.2.1⟩⟩
      · exact nst il ⟨h, a, ha, han⟩ FI.refl ⟨a, ha, hR.rf (rf50 wA.1 wa (fun u => y5 (by rw [wA.2.1, u]; rfl)) (fun u => y12 (by rw [wA.2.1, u]; rfl)) (fun u => y8 (u.imp (fun v => by rw [wA.2.1, v]; rfl) (fun v => by rw [wA.2.1, v]; rfl))) (fun u => y4 (u.imp (fun v => by rw [wA.2.1, v]; rfl) (fun v => by rw [wA.2.1, v]; rfl))))⟩
end TYA
end
