section
/-! The class's reader of texts, exactly: a command's branches. -/
section TXT
variable {G : mG} {d z q w T A B D N C n p O P K Ab Be Cm V F c s L L' cnt a a2 j k e ix nbr i b f ar Nn : Nat} {M0 M M' M1 M2 Mc Mc' : mM} {ns : Nat → Int} {sf ef : Nat → Nat} {W pl nq E : Nat → Int} {sm : Nat → Nat → Prop} {nms : List nm9} {ft fB fS : Int × Int} {zr : List Int}
theorem rc56 : Rc W (56 :: zr) a (63 :: 33 :: 58 :: zr) a := Rc.one (mst_n (by decide) (by decide) (ys := [63, 33, 58]) (t := 0) rfl (Or.inl (by decide)))
theorem rc57 (h : W a ≠ 24) : Rc W (57 :: zr) a zr a := Rc.one (mst_n (by decide) (by decide) (ys := []) (t := 0) (by
  show ex57 (W a) = _
  unfold ex57
  rw [if_neg h]) (Or.inl (by decide)))
theorem rc57m (h : W a = 24) : Rc W (57 :: zr) a (56 :: 57 :: zr) (a + 1) := Rc.one (mst_n (by decide) (by decide) (ys := [56, 57]) (t := 1) (by
  show ex57 (W a) = _
  unfold ex57
  rw [if_pos h]) (Or.inl (by decide)))
theorem brfc_e (hpe : e ≤ a) : brf W pl sm Nn nms e f a b = (0, 0) := by
  cases f with
  | zero => rfl
  | succ f => rw [brf, if_pos hpe]
/-- b branches have been read, their fault is fB, the next begins at i; the command begins at k, its arrow stands at ar -/
def brK (W pl : Nat → Int) (sm : Nat → Nat → Prop) (Nn : Nat) (Mc : mM) (q p c k ar : Nat) (nms : List nm9) (fB : Int × Int) (i b : Nat) : Prop := CT Mc (q + 1) p nms → nms.length = c → ∀ e, no34 W k e → W e = 34 → (fB.1 ≠ 0 → brf W pl sm Nn nms e Nn (ar + 1) 0 = fB) ∧ (fB.1 = 0 → brf W pl sm Nn nms e Nn (ar + 1) 0 = brf W pl sm Nn nms e (Nn - b) i b)
theorem rsX.to (h : rsX W pl sm Nn Mc' q p c k nms fS a) (hc : CT Mc (q + 1) p nms → CT Mc' (q + 1) p nms) : rsX W pl sm Nn Mc q p c k nms fS a := h.imp (fun u => u) (fun u => ⟨u.1, fun ct hl => u.2.1 (hc ct) hl, u.2.2⟩)
theorem rsX.no {k0 : Nat} (h : rsX W pl sm Nn Mc q p c k nms fS a) (n4 : no34 W k0 k) : no34 W k0 a ∧ k ≤ a := by
  rcases h with ⟨w10, -, ea⟩ | ⟨-, -, g⟩
  · subst ea
    exact ⟨n4.sc (by rw [w10]; decide), Nat.le_succ k⟩
  · exact ⟨n4.join g, g.1⟩
theorem brK.step (h : brK W pl sm Nn Mc q p c k ar nms fB a i) (hb8 : fB.1 = 0 → i ≤ 8) (hia : i ≤ a) (hka : k + 1 ≤ a) (n4 : no34 W k a) (hNn : n ≤ Nn) (eo : Eo W 6 a j) (w33 : W j = 33) (jn : j < n) (hE : CT Mc (q + 1) p nms → nms.length = c → E = E9 sm nms 0) (rx : rsX W pl sm Nn Mc q p c (j + 1) nms fS a2) : brK W pl sm Nn Mc q p c k ar nms (fst9 (fst9 (fst9 fB (if 8 ≤ i then (5, pl a) else (0, 0))) (vrf W E pl 0 a j)) fS) (a2 + 1) (i + 1) := fun ct hl e ne we => by
  obtain ⟨h1, h2⟩ := h ct hl e ne we
  have aj := eo.pr.1
  by_cases f0 : fB.1 = 0
  · have hb := h2 f0
    have i8 := hb8 f0
    obtain ⟨f, hf⟩ : ∃ f, Nn - i = f + 1 := ⟨Nn - i - 1, by omega⟩
    have hf2 : Nn - (i + 1) = f := by omega
    have ea : ¬ e ≤ a := fun u => by
      by_cases v : e = a
      · have y := eo.rw9 (j := a) (Nat.le_refl _) aj
        rw [← v, we] at y
        unfold rwd at y
        omega
      · exact n4.2 e ne.1 (by omega) we
    have hq : clq W (a - 1) Nn = j := clq_eo (by rw [show a - 1 + 1 = a by omega]; exact eo) w33 (by omega)
    have ev : vrf W E pl 0 a j = rf9 W pl sm nms 0 0 a j := by
      rw [hE ct hl]
      rfl
    rw [hf, brf, if_neg ea, hq, ← ev] at hb
    rw [fst9_zr f0, hf2]
    by_cases b8 : i = 8
    · rw [if_pos b8] at hb
      rw [if_pos (by omega), fst9_n (show ((5 : Int), pl a).1 ≠ 0 by simp), fst9_n (show ((5 : Int), pl a).1 ≠ 0 by simp)]
      exact ⟨fun _ => hb, fun u => absurd u (by first | decide | simp)⟩
    · rw [if_neg b8] at hb
      rw [if_neg (by omega), fst9_0]
      by_cases v0 : (vrf W E pl 0 a j).1 = 0
      · rw [if_neg (fun u => u v0)] at hb
        rw [fst9_zr v0]
        rcases rx with ⟨w10, fs0, ea2⟩ | ⟨w10, so, -⟩
        · rw [if_pos w10] at hb
          rw [fs0, ea2]
          exact ⟨fun u => absurd rfl u, fun _ => hb⟩
        · rw [if_neg w10] at hb
          obtain ⟨g1, g2⟩ := so ct hl
          by_cases s0 : fS.1 = 0
          · obtain ⟨s1, s2⟩ := g2 s0
            have s1 : (sef W pl sm Nn nms Nn (j + 1) []).1.1 = 0 := s1
            have s2 : a2 = (sef W pl sm Nn nms Nn (j + 1) []).2 := s2
            rw [if_neg (fun u => u s1), ← s2] at hb
            exact ⟨fun u => absurd s0 u, fun _ => hb⟩
          · have s1 : (sef W pl sm Nn nms Nn (j + 1) []).1 = fS := g1 s0
            rw [s1, if_pos s0] at hb
            exact ⟨fun _ => hb, fun u => absurd u s0⟩
      · rw [if_pos v0] at hb
        rw [fst9_n v0]
        exact ⟨fun _ => hb, fun u => absurd u v0⟩
  · rw [fst9_n f0, fst9_n f0, fst9_n f0]
    exact ⟨h1, fun u => absurd u f0⟩
/-- before a branch, or behind the last -/
def rcJ (T A B D n : Nat) (W pl nq : Nat → Int) (sm : Nat → Nat → Prop) (Nn : Nat) (Mc : mM) (q p c k ar : Nat) (nms : List nm9) (ft : Int × Int) (l3 : Int) (b a : Nat) (M : mM) : Prop := WTq M T A B D n W pl nq sm ∧ cmK q p Mc M ∧ ∃ fB : Int × Int, FT M (q + 1) (fst9 ft fB) ∧ (fB.1 = 0 → b ≤ 8) ∧ (no34 W k a ∧ k + 1 ≤ a) ∧ ((l3 ≠ 0 ∧ b ≤ a ∧ Rc W [50] 0 [56, 57, 34, 50] a ∧ brK W pl sm Nn Mc q p c k ar nms fB a b) ∨ (l3 = 0 ∧ Rc W [50] 0 [34, 50] a ∧ brK W pl sm Nn Mc q p c k ar nms fB (a + 1) b))
/-- a command has been read, exactly: from its arrow at ar on -/
def cmV (W pl : Nat → Int) (sm : Nat → Nat → Prop) (Nn : Nat) (Mc : mM) (q p c k ar ix : Nat) (nms : List nm9) (ft : Int × Int) (x : Int) (M' : mM) : Prop := ∃ a' : Nat, mI M' (q + 1) 2 = a' ∧ ((x = 0 ∧ Rf W [50] 0 a') ∨ (x = 1 ∧ ∃ (e : Nat) (fB : Int × Int), a' = e + 1 ∧ W e = 34 ∧ no34 W k e ∧ Rc W [50] 0 [50] (e + 1) ∧ FT M' (q + 1) (fst9 ft fB) ∧ (CT Mc (q + 1) p nms → nms.length = c → (fB.1 ≠ 0 → brf W pl sm Nn nms e Nn (ar + 1) 0 = fB) ∧ (fB.1 = 0 → brf W pl sm Nn nms e Nn (ar + 1) 0 = (0, 0))) ∧ mI M' (q + 1) 19 = mI Mc (q + 1) 19 ∧ (∀ i, 6 ≤ i → i ≤ 9 → mI M' (q + 1 + i) = mI Mc (q + 1 + i)) ∧ (∀ i, i ≠ 2 → mI M' p i = if i = 12 then (ix : Int) + 1 else mI Mc p i) ∧ mI M' (p + 6) = mI Mc (p + 6) ∧ mI M' (p + 7) = mI Mc (p + 7)))
theorem x_rc_end (h : cmI M0 z q w T A B D N C n p O P K Ab Be Cm V F ns sf ef c cnt L ix nbr a M) (hLa : L ≤ a + 1) (e78 : M' = mUI M p 12 ((ix : Int) + 1)) (wt : WTq M T A B D n W pl nq sm) (km : cmK q p Mc M) (hF : FT M (q + 1) (fst9 ft fB)) (n4 : no34 W k a) (hR : Rc W [50] 0 [34, 50] a) (bk : brK W pl sm Nn Mc q p c k ar nms fB (a + 1) b) : mK M' (mR M' q 0) = 4 ∧ Ci G y_RR_accept d [vr (mR M' q 0), vi 35] M' (fun x82 M81 => i32 x82 ∧ mOk M81 ∧ ((x82 = 0 ∨ x82 = 1) ∧ (cmQ9 M0 z q w T A B D N C n p O P K Ab Be Cm V F ns sf ef c x82 M81 ∧ cmV W pl sm Nn Mc q p c k ar ix nms ft x82 M81))) := by
  obtain ⟨f1, h1, cy, a1, a2, p1, d1, c1, hix⟩ := h
  have ap := h1.1.apart
  have qp := h1.1.2.2.2.2.2.1.2.1
  have f : FI (fun y => y = p) M M' := by rw [e78]; exact FI.ui rfl
  have ok : mOk M' := by rw [e78]; exact mOk_UI h1.1.1.1 ⟨by omega, by omega⟩
  have nb : ∀ y, y ≠ p → mI M' y = mI M y := fun y hy => f.2.2.2.2.2.2 y hy
  have ip : ∀ i, mI M' p i = if i = 12 then (ix : Int) + 1 else mI M p i := fun i => by
    rw [mI_ui _ i e78]
    by_cases y : i = 12
    · rw [if_pos ⟨rfl, y⟩, if_pos y]
    · rw [if_neg (fun t => y t.2), if_neg y]
  have fx : FI (txS q p O P) M M' := f.mono (fun y hy => Or.inr (Or.inr (Or.inr (Or.inl hy))))
  have nO := nb O (by omega)
  have nP := nb P (by omega)
  have nr : ∀ i, i ≤ 10 → mI M' (q + i) = mI M (q + i) := fun i hi => nb _ (by omega)
  have h' : TX M' z q w T A B D N C n p O P K Ab Be Cm V F ns sf ef c (ix + 1) L := by
    obtain ⟨hP, ⟨k1, k2, k3, k4⟩, x1, x2⟩ := h1
    refine ⟨hP.fi ok fx, ⟨by rw [ip, if_neg (by decide)]; exact k1, by rw [ip, if_neg (by decide)]; exact k2, ?_, fun j => by rw [nr 6 (by omega)]; exact k4 j⟩, ⟨by rw [ip, if_pos rfl]; omega, by omega⟩, fun y0 => ?_⟩
    · unfold TN at k3 ⊢
      rw [(hP.words fx).1, nr 1 (by omega), show q + 1 + 6 = q + 7 by omega, show q + 1 + 7 = q + 8 by omega, show q + 1 + 8 = q + 9 by omega, show q + 1 + 9 = q + 10 by omega, nr 7 (by omega), nr 8 (by omega), nr 9 (by omega), nr 10 (by omega)]
      exact k3
    · rw [nr 1 (by omega)] at y0
      obtain ⟨g1, g2, u, v, g3, g4, g5, g6, g7, sg, g8, g9⟩ := cy y0
      subst g1
      have cg : ∀ {s h : Nat}, PC M O P V F ns ef L s h → PC M' O P V F ns ef L s h := fun hc => hc.cg (fun i _ => by rw [nO]) (fun i _ => by rw [nP])
      obtain ⟨m1, m2, m3, m4, m5, ⟨uu, m6, m7, m8⟩, m9⟩ := g7.up (M' := M') (by rw [ip, if_neg (by decide)]) (nb _ (by omega)) (nb _ (by omega)) (fun i _ => by rw [nb _ (by omega)]) (fun i hi => by rw [nb _ (by omega)]) (fun b' _ => ⟨by rw [nb _ (by omega)], by rw [nb _ (by omega)]⟩) (fun i _ => ⟨by rw [nO], by rw [nP]⟩)
      have t12 : mI M' (p + 12) = mI M (p + 12) := nb _ (by omega)
      have uu' : uu = u := by
        rw [t12, g3] at m6
        omega
      refine ⟨v, by rw [t12]; exact g4, m1, m2, fun j hj => ?_, m4, fun j hj => ?_, ⟨v, by rw [t12]; exact g4, Nat.le_refl _, by omega⟩, m9⟩
      · by_cases y : j = ix
        · subst y
          exact ⟨sg, by rw [nb _ (by omega)]; exact g8, cg g9⟩
        · exact m3 j (by omega)
      · by_cases y : j = ix
        · subst y
          exact ⟨u, v, by rw [t12]; exact g3, by rw [t12]; exact g4, by omega, by omega⟩
        · exact m5 j (by omega)
  have n1 := nr 1 (by omega)
  clear cy
  rw [h'.1.2.1.2.1]
  refine ⟨h'.1.1.2.1.1, (x_tx_accept (x := 35) (i32s (by omega) (by omega)) (by omega) h' (by rw [n1]; exact a1) a2).mono (fun x82 M81 kk => ?_)⟩
  obtain ⟨i1, o1, hx, h2, x2, k1, r1, b1, m1⟩ := kk
  have wt' : WTq M' T A B D n W pl nq sm := wt.fi h1.1 fx
  have q9 : ∀ i, i ≤ 9 → q + 1 + i ≠ p := fun i hi => by omega
  refine ⟨i1, o1, hx, ?_⟩
  rcases k1 with ⟨e1, e35, a3, an3⟩ | ⟨e1, e2⟩
  · have w34 : W a = 34 := (wt'.is a2 (by decide) (by decide)).mp e35
    have x2e := x2.2
    refine ⟨?_, a + 1, a3, Or.inr ⟨e1, a, fB, rfl, w34, n4, rc_t hR w34 (by decide), hF.same (by rw [r1 3 (by decide), n1]) (by rw [r1 4 (by decide), n1]), fun ct hl => ?_, ?_⟩⟩
    rotate_left
    · obtain ⟨y1, y2⟩ := bk ct hl a n4 w34
      refine ⟨y1, fun y0 => ?_⟩
      rw [y2 y0, brfc_e (Nat.le_succ a)]
    · refine ⟨by rw [(cmK.tx x2e).1, n1]; exact km.1, fun i i6 i9 => by rw [(cmK.tx x2e).2.1 i i6 i9, nb _ (q9 i i9)]; exact km.2.1 i i6 i9, fun i i2 => ?_, by rw [(cmK.tx x2e).2.2.2.1, nb _ (by omega)]; exact km.2.2.2.1, by rw [(cmK.tx x2e).2.2.2.2, nb _ (by omega)]; exact km.2.2.2.2⟩
      rw [(cmK.tx x2e).2.2.1 i i2, ip]
      by_cases y : i = 12
      · rw [if_pos y, if_pos y]
      · rw [if_neg y, if_neg y]
        exact km.2.2.1 i i2
    refine ⟨(f1.trans fx).trans x2.1, Or.inr ⟨e1, L, ix + 1, a + 1, h2, by rw [b1 p (by omega), ip, if_neg (by decide)]; exact p1, a3, an3, hLa, by rw [r1 5 (by decide), n1]; exact d1⟩⟩
  · rw [e2]
    exact ⟨⟨f1.trans fx, Or.inl ⟨e1, L, ix + 1, h', a, by rw [n1]; exact a1, a2⟩⟩, a, by rw [n1]; exact a1, Or.inl ⟨e1, rf_t hR (fun u => m1 e1 ((wt'.is a2 (by decide) (by decide)).mpr u)) (by decide)⟩⟩
theorem x_rc201 (h : cmI M0 z q w T A B D N C n p O P K Ab Be Cm V F ns sf ef c cnt L ix nbr a M) (hLa : L ≤ a) (hi : i ≤ n) (hNn : n ≤ Nn) (wt : WTq M T A B D n W pl nq sm) (km : cmK q p Mc M) (hF : FT M (q + 1) (fst9 ft (fst9 fB (if 8 ≤ i then (5, pl a) else (0, 0))))) (hb8 : fB.1 = 0 → i ≤ 8) (hia : i ≤ a) (hka : k + 1 ≤ a) (n4 : no34 W k a) (hR : Rc W [50] 0 [56, 57, 34, 50] a) (bk : brK W pl sm Nn Mc q p c k ar nms fB a i) (n8 : mI M (q + 1) 3 = 0 → nbr ≤ i ∧ i < 8) (nx : ∀ (M1 : mM) (l3 : Int) (L' nbr' a' : Nat), i32 l3 → cmI M0 z q w T A B D N C n p O P K Ab Be Cm V F ns sf ef c cnt L' ix nbr' a' M1 → (l3 ≠ 0 → L' ≤ a') → L' ≤ a' + 1 → (mI M1 (q + 1) 3 = 0 → nbr' ≤ i + 1) → rcJ T A B D n W pl nq sm Nn Mc q p c k ar nms ft l3 (i + 1) a' M1 → h_TR_readCommand_160 G (d + 6) q ix l3 ((i : Int) + 1) M1 (fun x M' => cmQ9 M0 z q w T A B D N C n p O P K Ab Be Cm V F ns sf ef c x M' ∧ cmV W pl sm Nn Mc q p c k ar ix nms ft x M')) : h_TR_readCommand_201 G (d + 6) q ix i M (fun x M' => cmQ9 M0 z q w T A B D N C n p O P K Ab Be Cm V F ns sf ef c x M' ∧ cmV W pl sm Nn Mc q p c k ar ix nms ft x M') := by
  obtain ⟨f1, h1, cy, a1, a2, p1, d1, c1, hix⟩ := h
  have hN : n ≤ 16384 := by have := h1.1.1.2.2.2.1.2.2.1; have := h1.1.1.2.2.2.1.1.2.2.2.2.2.2.1; omega
  obtain ⟨⟨np0, np1, -, -⟩, ⟨nO0, nO1, -, -, nOp⟩, nP0, nP1, -, -, nPp⟩ := h1.1.ne
  refine k_TR_readCommand_201 h1.1.1.1 (i32s (by omega) (by omega)) (i32s (by omega) (by omega)) ⟨h1.1.2.1.1, (x_TR_readChance (nms := nms) h1 cy (fun y => by have := n8 y; omega) a1 a2 p1 hLa d1 c1 hix wt hF (hR.trans rc56)).mono (fun x99 M98 kk => ?_)⟩
  obtain ⟨⟨f98, k98⟩, j9, ej9, cv⟩ := kk
  have i99 : i32 x99 := m_b32 (k98.imp (fun u => u.1) (fun u => u.1))
  have o98 : mOk M98 := by
    rcases k98 with ⟨-, u, -⟩ | ⟨-, u, -⟩
    · exact u.1.1.1
    · exact u.1.1.1
  refine ⟨i99, o98, fun y => ?_, fun y => ?_⟩
  · obtain ⟨-, u⟩ := k98.resolve_right (fun u => by rw [y] at u; exact absurd u.1 (by first | decide | simp))
    refine ⟨⟨f1.trans f98, Or.inl ⟨rfl, L, cnt, u⟩⟩, j9, ej9, Or.inl ⟨rfl, ?_⟩⟩
    rcases cv with ⟨-, cv⟩ | ⟨cv, -⟩
    · exact cv
    · exact absurd y (by rw [cv]; decide)
  obtain ⟨-, h98, z98, a', e, a98, an98, p98, Le, ea, d98, c98, cy98, br98⟩ := k98.resolve_left (fun u => y u.1)
  clear k98 cy
  obtain ⟨-, j, E, ej, w33, eo, rc5, F98, hE, km98⟩ := cv.resolve_left (fun u => y u.1)
  clear cv
  have ea' : a' = j + 1 := by
    rw [a98] at ej9
    omega
  subst ea'
  have wt98 : WTq M98 T A B D n W pl nq sm := wt.fi h1.1 f98
  have kmc := km.trans km98
  have I98 : rsI M98 z q w T A B D N C n p O P K Ab Be Cm V F ns sf ef c cnt L (e + 1) (j + 1) (e + 1) M98 := ⟨h98, txF.refl, a98, an98, p98, Nat.le_refl _, ea, d98, c98, fun _ => ⟨fun _ => 0, fun pc h0 h2 => absurd h0 (by omega), rfl, rfl, Nat.le_refl _⟩, by omega⟩
  refine ⟨h98.1.2.1.1, (x_TR_readSets (nms := nms) hNn h98.2.1.2.2.1 I98 wt98 F98 rc5).mono (fun x105 M104 kk => ?_)⟩
  obtain ⟨⟨f104, k104⟩, b9, eb9, rv⟩ := kk
  have i105 : i32 x105 := m_b32 (k104.imp (fun u => u.1) (fun u => u.1))
  have o104 : mOk M104 := by
    rcases k104 with ⟨-, u, -⟩ | ⟨-, u, -⟩
    · exact u.1.1.1
    · exact u.1.1.1
  refine ⟨i105, o104, fun y => ?_, fun y => ?_⟩
  · obtain ⟨-, u⟩ := k104.resolve_right (fun u => by rw [y] at u; exact absurd u.1 (by first | decide | simp))
    refine ⟨⟨(f1.trans f98).trans f104.1, Or.inl ⟨rfl, L, cnt, u⟩⟩, b9, eb9, Or.inl ⟨rfl, ?_⟩⟩
    rcases rv with ⟨-, rv⟩ | ⟨rv, -⟩
    · exact rv
    · exact absurd y (by rw [rv]; decide)
  obtain ⟨-, h104, a2', s9, a104, an104, p104, es9, sa, d104, c104, cd104⟩ := k104.resolve_left (fun u => y u.1)
  clear k104 I98
  obtain ⟨-, rc6, fS, F104, rx⟩ := rv.resolve_left (fun u => y u.1)
  clear rv
  have eb' : a2' = b9 := by
    rw [a104] at eb9
    omega
  subst eb'
  have wt104 : WTq M104 T A B D n W pl nq sm := wt98.fi h98.1 f104.1
  have km104 := kmc.trans (cmK.tx f104.2)
  have jn : j < n := by omega
  obtain ⟨n6, ja2⟩ := rx.no ((n4.eo eo).sc (by rw [w33]; decide))
  have bk2 := bk.step hb8 hia hka n4 hNn eo w33 jn (fun ct hl => hE (ct.cm km) hl) (rx.to (fun ct => ct.cm kmc))
  rw [fst9_as, fst9_as] at F104
  have ka2 : k + 1 ≤ a2' := Nat.le_trans hka (Nat.le_trans (Nat.le_of_lt eo.pr.1) (Nat.le_trans (Nat.le_succ j) ja2))
  have ia2 : i + 1 ≤ a2' + 1 := Nat.succ_le_succ (Nat.le_trans hia (Nat.le_trans (Nat.le_of_lt eo.pr.1) (Nat.le_trans (Nat.le_succ j) ja2)))
  have cy104 := cy98.tx (f104.less (show L ≤ e + 1 by omega)).2
  have z104 : mI M104 (q + 1) 3 = 0 → mI M98 (q + 1) 3 = 0 := fun t => Classical.byContradiction (fun t2 => f104.2.2.1 t2 t)
  have z0 : mI M98 (q + 1) 3 = 0 → mI M (q + 1) 3 = 0 := fun t => Classical.byContradiction (fun t2 => z98 t2 t)
  have br : mI M104 (q + 1) 3 = 0 → ∃ v s s' : Nat, mI M104 (p + 12) (cnt + 1) = ((v : Nat) : Int) ∧ mI M104 (p + 14) v = ((s : Nat) : Int) ∧ PC M104 O P V F ns ef (s9 + 1) s 1 ∧ mI M104 (p + 15) v = ((s' : Nat) : Int) ∧ PC M104 O P V F ns ef (s9 + 1) s' 0 := fun t => by
    obtain ⟨v, H, b1, b2, b3, b4⟩ := br98 (z104 t)
    obtain ⟨H2, b5⟩ := cd104 t
    obtain ⟨-, -, u', v', -, -, -, -, g7, -⟩ := cy104 t
    have t12 := f104.2.2.2.2.2.1 12 (by omega) (by omega)
    have t14 := f104.2.2.2.2.2.1 14 (by omega) (by omega)
    have t15 := f104.2.2.2.2.2.1 15 (by omega) (by omega)
    have fl : ∀ y, y < F → ns y = 7 → ef y < L := fun y hy h7 => ((g7.1 y hy).2 h7).2.2.1
    refine ⟨v, L, e + 1, by rw [t12]; exact b1, by rw [t14]; exact b2, ⟨e, H, F, b4.cg (fun i hi => (f104.2.2.2.2.2.2 i (by omega)).1) (fun i hi => (f104.2.2.2.2.2.2 i (by omega)).2), by omega, Nat.le_refl _, fl⟩, by rw [t15]; exact b3, ⟨s9, H2, F, b5, Nat.lt_succ_self _, Nat.le_refl _, fun y hy h7 => ?_⟩⟩
    have := fl y hy h7
    omega
  have n8' : mI M104 (q + 1) 3 = 0 → nbr < 8 := fun t => by have := n8 (z0 (z104 t)); omega
  obtain ⟨t1, t2⟩ := s_rc_cnt (M0 := M0) ((f1.trans f98).trans f104.1) h104 cy104 n8' a104 an104 p104 (by omega) d104 c104 hix br
  have tt := h104.tab.2.1.2.2.2.2.2.2.2.2.2.1
  rw [h104.1.2.1.2.1, h104.1.2.1.2.2.2.1, tt]
  refine ⟨h104.1.2.1.1, h104.1.1.2.1.1, t1, fun M120 e120 => ?_⟩
  obtain ⟨nbr', I120, hn'⟩ := t2 M120 e120
  have h120 := I120.2.1
  have a120 := I120.2.2.2.1
  have nn : mI M120 (q + 1) 3 = 0 → nbr' ≤ i + 1 := fun t => by
    have t104 : mI M104 (q + 1) 3 = 0 := by
      by_cases u : mI M104 (q + 1) 3 = 0
      · exact u
      · rw [if_neg u] at e120
        rw [e120] at t
        exact t
    have := n8 (z0 (z104 t104))
    have := hn' t
    omega
  have nb120 : ∀ b, b ≠ p + 12 → mI M120 b = mI M104 b := fun b hb => by
    by_cases u : mI M104 (q + 1) 3 = 0
    · rw [if_pos u] at e120
      have f : FI (fun y => y = p + 12) M104 M120 := by rw [e120]; exact FI.ui rfl
      exact f.2.2.2.2.2.2 b hb
    · rw [if_neg u] at e120
      rw [e120]
  have f120 : FI (txS q p O P) M104 M120 := by
    by_cases u : mI M104 (q + 1) 3 = 0
    · rw [if_pos u] at e120
      rw [e120]
      exact FI.ui (Or.inr (Or.inr (Or.inr (Or.inr (Or.inl ⟨by omega, by omega⟩)))))
    · rw [if_neg u] at e120
      rw [e120]
      exact FI.refl
  have q12 : (∀ i, i ≤ 9 → q + 1 + i ≠ p + 12) ∧ p ≠ p + 12 ∧ p + 6 ≠ p + 12 ∧ p + 7 ≠ p + 12 := by
    have qp := h104.1.2.2.2.2.2.1.2.1
    clear t1 t2 br br98 cy98 cy104 cd104 e120 tt n8 n8' hn' nn nx
    exact ⟨fun i hi => by omega, by omega, by omega, by omega⟩
  have r120 : mI M120 (q + 1) = mI M104 (q + 1) := nb120 _ (q12.1 0 (by omega))
  have km120 : cmK q p Mc M120 := km104.trans ⟨by rw [r120], fun i _ i9 => nb120 _ (q12.1 i i9), fun i _ => by rw [nb120 _ q12.2.1], nb120 _ q12.2.2.1, nb120 _ q12.2.2.2⟩
  have wt120 : WTq M120 T A B D n W pl nq sm := wt104.fi h104.1 f120
  have F120 : FT M120 (q + 1) (fst9 ft (fst9 (fst9 (fst9 fB (if 8 ≤ i then (5, pl a) else (0, 0))) (vrf W E pl 0 a j)) fS)) := by
    have u := F104.same (M' := M120) (by rw [r120]) (by rw [r120])
    simp only [fst9_as] at u ⊢
    exact u
  clear t1 t2 br br98 cy98 cy104 cd104 e120 tt n8 n8' hn'
  rw [h120.1.2.1.2.1]
  refine ⟨h120.1.1.1, h120.1.1.2.1.1, (x_tx_accept (x := 25) (i32s (by omega) (by omega)) (by omega) h120 a120 an104).mono (fun x126 M125 kk => ?_)⟩
  obtain ⟨i126, o125, hx126, h125, x125, k125, r125, b125, m125⟩ := kk
  have wt125 : WTq M125 T A B D n W pl nq sm := wt120.fi h120.1 x125.1
  have km125 := km120.trans (cmK.tx x125.2)
  have F125 := F120.same (r125 3 (by decide)) (r125 4 (by decide))
  have z8 : (fst9 (fst9 (fst9 fB (if 8 ≤ i then (5, pl a) else (0, 0))) (vrf W E pl 0 a j)) fS).1 = 0 → i + 1 ≤ 8 := fun u => by
    have u1 := (fst9_1.mp (fst9_1.mp (fst9_1.mp u).1).1).2
    by_cases v : 8 ≤ i
    · rw [if_pos v] at u1
      exact absurd u1 (by first | decide | simp)
    · omega
  obtain ⟨j1, j2, j3, j4, j5, j6, j7, j8, j9⟩ := I120
  have Y : mI M125 (q + 1) 3 = 0 → nbr' ≤ i + 1 := fun t => nn (Classical.byContradiction (fun t2 => x125.2.2.1 t2 t))
  refine ⟨i126, o125, ?_⟩
  rcases k125 with ⟨e1, e24, a125, an125⟩ | ⟨e1, e2⟩
  · have w24 : W a2' = 24 := (wt120.is an104 (by decide) (by decide)).mp e24
    exact nx M125 x126 (s9 + 1) nbr' (a2' + 1) i126 ⟨j1.trans x125.1, h125, j3.tx x125.2, a125, an125, by rw [b125 p np1]; exact j6, by rw [r125 5 (by decide)]; exact j7, by rw [r125 6 (by decide)]; exact j8, j9⟩ (fun _ => by omega) (by omega) Y ⟨wt125, km125, _, F125, z8, ⟨n6.sc (by rw [w24]; decide), Nat.le_succ_of_le ka2⟩, Or.inl ⟨by rw [e1]; decide, ia2, rc6.trans (rc57m w24), bk2⟩⟩
  · have w24 : W a2' ≠ 24 := fun u => m125 e1 ((wt120.is an104 (by decide) (by decide)).mpr u)
    exact nx M125 x126 (s9 + 1) nbr' a2' i126 ⟨j1.trans x125.1, h125, j3.tx x125.2, by rw [e2]; exact j4, j5, by rw [b125 p np1]; exact j6, by rw [r125 5 (by decide)]; exact j7, by rw [r125 6 (by decide)]; exact j8, j9⟩ (fun t => absurd e1 t) (by omega) Y ⟨wt125, km125, _, F125, z8, ⟨n6, ka2⟩, Or.inr ⟨e1, rc6.trans (rc57 w24), bk2⟩⟩
end TXT
end
section
/-! The class's reader of texts, exactly: a command from its arrow on. -/
section TXU
variable {G : mG} {d z q w T A B D N C n p O P K Ab Be Cm V F c s L L' cnt a a0 j k e ix nbr i b f ar Nn : Nat} {M0 M M' M1 M2 Mc Mc' : mM} {ns : Nat → Int} {sf ef : Nat → Nat} {H : Nat → Nat} {W pl nq E : Nat → Int} {sm : Nat → Nat → Prop} {nms : List nm9} {ft fB fS : Int × Int} {zr : List Int}
theorem hF0 {r : Nat} (fB : Int × Int) (h : FT M r (fst9 ft fB)) : FT M r (fst9 ft (fst9 fB (0, 0))) := by
  rw [← fst9_as]
  exact h.none
theorem x_rc160 (hNn : n ≤ Nn) : ∀ (t i : Nat) (M : mM) (l3 : Int) (L nbr a : Nat), n + 1 ≤ i + t → i ≤ n + 1 → i32 l3 → cmI M0 z q w T A B D N C n p O P K Ab Be Cm V F ns sf ef c cnt L ix nbr a M → (l3 ≠ 0 → L ≤ a) → L ≤ a + 1 → (mI M (q + 1) 3 = 0 → nbr ≤ i) → rcJ T A B D n W pl nq sm Nn Mc q p c k ar nms ft l3 i a M → h_TR_readCommand_160 G (d + 6) q ix l3 i M (fun x M' => cmQ9 M0 z q w T A B D N C n p O P K Ab Be Cm V F ns sf ef c x M' ∧ cmV W pl sm Nn Mc q p c k ar ix nms ft x M') := by
  intro t
  induction t with
  | zero =>
    intro i M l3 L nbr a ht hi i3 h hLa hLa1 hn J
    have h1 := h.2.1
    have hix := h.2.2.2.2.2.2.2.2
    have hN : n ≤ 16384 := by have := h1.1.1.2.2.2.1.2.2.1; have := h1.1.1.2.2.2.1.1.2.2.2.2.2.2.1; omega
    obtain ⟨t0, t1, t2, t3, t4, t5⟩ := h1.1.2.1
    have r0 := h1.1.1.2.2.1.1
    have w1 := h1.1.1.2.2.2.1.1.1
    have w2 := h1.1.1.2.2.2.1.2.1
    refine k_TR_readCommand_160 h1.1.1.1 (i32s (by omega) (by omega)) i3 (i32s (by omega) (by omega)) ?_
    rw [t1, r0, w2, t3]
    obtain ⟨wt, km, fB, hF, hb8, ⟨n4, hka'⟩, J⟩ := J
    have a2 := h.2.2.2.2.1
    have J := J.resolve_left (fun u => by
      have := u.2.1
      clear J
      omega)
    exact ⟨t0, h1.1.1.2.1.1, w1, fun _ => ⟨h1.1.1.2.2.2.2.1.1, ⟨by omega, by omega⟩, fun M78 e78 => x_rc_end h hLa1 e78 wt km hF n4 J.2.1 J.2.2⟩, fun y => absurd (Or.inl (by omega)) y⟩
  | succ t ih =>
    intro i M l3 L nbr a ht hi i3 h hLa hLa1 hn J
    have h1 := h.2.1
    have hix := h.2.2.2.2.2.2.2.2
    have hN : n ≤ 16384 := by have := h1.1.1.2.2.2.1.2.2.1; have := h1.1.1.2.2.2.1.1.2.2.2.2.2.2.1; omega
    obtain ⟨t0, t1, t2, t3, t4, t5⟩ := h1.1.2.1
    have r0 := h1.1.1.2.2.1.1
    have w1 := h1.1.1.2.2.2.1.1.1
    have w2 := h1.1.1.2.2.2.1.2.1
    have nxt : ∀ (M1 : mM) (l3 : Int) (L' nbr' a' : Nat), i32 l3 → cmI M0 z q w T A B D N C n p O P K Ab Be Cm V F ns sf ef c cnt L' ix nbr' a' M1 → (l3 ≠ 0 → L' ≤ a') → L' ≤ a' + 1 → (mI M1 (q + 1) 3 = 0 → nbr' ≤ i + 1) → rcJ T A B D n W pl nq sm Nn Mc q p c k ar nms ft l3 (i + 1) a' M1 → i < n + 1 → h_TR_readCommand_160 G (d + 6) q ix l3 ((i : Int) + 1) M1 (fun x M' => cmQ9 M0 z q w T A B D N C n p O P K Ab Be Cm V F ns sf ef c x M' ∧ cmV W pl sm Nn Mc q p c k ar ix nms ft x M') := fun M1 l3 L' nbr' a' j1 j2 j3 j4 j5 jj j6 => by
      rw [show ((i : Int) + 1) = ((i + 1 : Nat) : Int) by omega]
      exact ih (i + 1) M1 l3 L' nbr' a' (by omega) (by omega) j1 j2 j3 j4 j5 jj
    obtain ⟨wt, km, fB, hF, hb8, ⟨n4, hka'⟩, J⟩ := J
    have a2 := h.2.2.2.2.1
    refine k_TR_readCommand_160 h1.1.1.1 (i32s (by clear J; omega) (by clear J; omega)) i3 (i32s (by clear J; omega) (by clear J; omega)) ?_
    rw [t1, r0, w2, t3]
    by_cases l30 : l3 = 0
    · have J := J.resolve_left (fun u => u.1 l30)
      exact ⟨t0, h1.1.1.2.1.1, w1, fun _ => ⟨h1.1.1.2.2.2.2.1.1, ⟨by omega, by omega⟩, fun M78 e78 => x_rc_end h hLa1 e78 wt km hF n4 J.2.1 J.2.2⟩, fun y => absurd (Or.inr l30) y⟩
    obtain ⟨-, hia, hR, bk⟩ := J.resolve_right (fun u => l30 u.1)
    clear J
    refine ⟨t0, h1.1.1.2.1.1, w1, fun y => absurd y (by omega), fun y => ?_⟩
    have i1n : i < n + 1 := by
      by_cases u : ((n : Int) + 1 ≤ i)
      · exact absurd (Or.inl u) y
      · omega
    refine ⟨fun y8 => x_rc201 h (hLa l30) (by omega) hNn wt km (by rw [if_neg (by omega)]; exact hF0 fB hF) hb8 hia hka' n4 hR bk (fun u => ⟨hn u, by omega⟩) (fun M1 l3 L' nbr' a' j1 j2 j3 j4 j5 jj => nxt M1 l3 L' nbr' a' j1 j2 j3 j4 j5 jj i1n), fun y8 => (s_RR_here h1.1.1 h.2.2.2.1 h.2.2.2.2.1).mono (fun x89 M88 kk => ?_)⟩
    obtain ⟨e88, ex89, x0, x1⟩ := kk
    subst e88
    refine ⟨i32s (by omega) (by omega), h1.1.1.1, h1.1.1.2.1.1, (x_tx_note (x := 5) (i32s (by omega) (by omega)) (by omega) (i32s (by omega) (by omega)) h1).mono (fun M92 kk => ?_)⟩
    obtain ⟨o92, h92, x92, u3, u4, u5, u6⟩ := kk
    have F92 := u6 _ hF
    rw [ex89, (wt.1 a a2).2.2, fst9_as] at F92
    obtain ⟨⟨np0, np1, -, -⟩, -, -⟩ := h1.1.ne
    obtain ⟨j1, j2, j3, j4, j5, j6, j7, j8, j9⟩ := h
    refine ⟨o92, x_rc201 (nbr := nbr) ⟨j1.trans x92.1, h92, j3.tx x92.2, by rw [u4 2 (by decide) (by decide)]; exact j4, j5, by rw [u5 p np1]; exact j6, by rw [u4 5 (by decide) (by decide)]; exact j7, by rw [u4 6 (by decide) (by decide)]; exact j8, j9⟩ (hLa l30) (by omega) hNn (wt.fi h1.1 x92.1) (km.trans (cmK.tx x92.2)) (by rw [if_pos (by omega)]; exact F92) hb8 hia hka' n4 hR bk (fun u => absurd u u3) (fun M1 l3 L' nbr' a' j1 j2 j3 j4 j5 jj => nxt M1 l3 L' nbr' a' j1 j2 j3 j4 j5 jj i1n)⟩
/-- the guard has been read: the command begins -/
theorem x_rc_guard {Q9 : Int → mM → Prop} (hQ : ∀ x M9, cmQ9 M0 z q w T A B D N C n p O P K Ab Be Cm V F ns sf ef c x M9 ∧ cmV W pl sm Nn Mc q p c k ar ix nms ft x M9 → Q9 x M9) (f1 : FI (txS q p O P) M0 M) (h : TX M z q w T A B D N C n p O P K Ab Be Cm V F ns sf ef c cnt L) (hix : ix ≤ 59) (hi : mI M (q + 1) 3 = 0 → ix = cnt ∧ cnt < 60) (cd : Cod M O P V F ns L e H 1) (h21 : mI M (q + 21) 0 = ((L : Nat) : Int)) (hp : mI M p 2 = ((e + 1 : Nat) : Int)) (ha : mI M (q + 1) 2 = ((a : Nat) : Int)) (han : a ≤ n) (hea : e + 1 ≤ a) (hd : mI M (q + 1) 5 = 0) (h6 : mI M (q + 1) 6 = 0) (hNn : n ≤ Nn) (hka : k + 1 ≤ a) (wt : WTq M T A B D n W pl nq sm) (km : cmK q p Mc M) (hF : FT M (q + 1) ft) (n4 : no34 W k a) (hR : Rc W [50] 0 [56, 57, 34, 50] a) (har : ar + 1 = a) : mK M q = 3 ∧ mK M (mR M q 2) = 6 ∧ mK M (mR M q 5) = 30 ∧ ((0 : Int) ≤ 0 ∧ 0 < (mN M (mR M q 5) : Int)) ∧ mK M (mR M (mR M q 2) 15) = 30 ∧ ((0 : Int) ≤ ix ∧ (ix : Int) < (mN M (mR M (mR M q 2) 15) : Int)) ∧ ∀ M59, M59 = mUI M (mR M (mR M q 2) 15) (Int.toNat ix) (mI M (mR M q 5) 0) → mK M59 (mR M59 q 2) = 6 ∧ mK M59 (mR M59 (mR M59 q 2) 16) = 30 ∧ ((0 : Int) ≤ ix ∧ (ix : Int) < (mN M59 (mR M59 (mR M59 q 2) 16) : Int)) ∧ ((0 : Int) ≤ (ix : Int) + 1 ∧ (ix : Int) + 1 < (mN M59 (mR M59 (mR M59 q 2) 16) : Int)) ∧ ∀ M65, M65 = mUI M59 (mR M59 (mR M59 q 2) 16) (Int.toNat ((ix : Int) + 1)) (mI M59 (mR M59 (mR M59 q 2) 16) (Int.toNat ix)) → h_TR_readCommand_160 G (d + 6) q ix 1 0 M65 Q9 := by
  have ap := h.1.apart
  have qp := h.1.2.2.2.2.2.1.2.1
  have neq : ∀ i, i ≤ 9 → q + 1 + i ≠ p + 11 ∧ q + 1 + i ≠ p + 12 := fun i hi => by omega
  have ne1 : q + 1 ≠ p + 11 ∧ q + 1 ≠ p + 12 ∧ O ≠ p + 11 ∧ O ≠ p + 12 ∧ P ≠ p + 11 ∧ P ≠ p + 12 ∧ p ≠ p + 11 ∧ p ≠ p + 12 := by omega
  clear ap qp
  have hLe : L ≤ e := cd.2.2.2.2.2
  have hN : n ≤ 16384 := by have := h.1.1.2.2.2.1.2.2.1; have := h.1.1.2.2.2.1.1.2.2.2.2.2.2.1; omega
  obtain ⟨t0, t1, t2, t3, t4, t5⟩ := h.1.2.1
  obtain ⟨s1, s2, s3, s4⟩ := h.1.2.2.1
  obtain ⟨k6, ⟨-, -, -, -, -, -, -, -, p15, p16, -⟩, ⟨-, -, -, -, -, -, -, -, kp11, kp12, -⟩, ⟨-, -, -, -, -, -, -, -, np11, np12, -⟩⟩ := h.tab
  rw [t3, t4, s3, p15, np11, h21, Int.toNat_natCast]
  refine ⟨t0, k6, s1, ⟨by omega, by omega⟩, kp11, by omega, fun M59 e59 => ?_⟩
  obtain ⟨h59, f59, n59, i59⟩ := h.up (b := 11) ⟨by omega, by omega⟩ e59 ⟨by omega, by omega⟩ (fun _ y => by have := hi y; omega) (fun y => absurd y (by omega))
  obtain ⟨-, ⟨-, -, -, -, -, -, -, -, -, p16', -⟩, ⟨-, -, -, -, -, -, -, -, -, kp12', -⟩, ⟨-, -, -, -, -, -, -, -, -, np12', -⟩⟩ := h59.tab
  rw [h59.1.2.1.2.2.2.1, p16', np12', show Int.toNat ((ix : Int) + 1) = ix + 1 by omega, n59 (p + 12) (by omega)]
  refine ⟨h59.1.1.2.2.2.2.1.1, kp12', by omega, by omega, fun M65 e65 => ?_⟩
  have z59 : mI M59 (q + 1) 3 = mI M (q + 1) 3 := by rw [n59 _ ne1.1]
  obtain ⟨h65, f65, n65, i65⟩ := h59.up (b := 12) (h.1.1.1 _ _).1 e65 ⟨by omega, by omega⟩ (fun y => absurd y (by omega)) (fun _ y => by rw [z59] at y; have := hi y; omega)
  have r65 : mI M65 (q + 1) = mI M (q + 1) := by rw [n65 _ ne1.2.1, n59 _ ne1.1]
  have O65 : mI M65 O = mI M O := by rw [n65 _ ne1.2.2.2.1, n59 _ ne1.2.2.1]
  have P65 : mI M65 P = mI M P := by rw [n65 _ ne1.2.2.2.2.2.1, n59 _ ne1.2.2.2.2.1]
  have q65 : mI M65 p = mI M p := by rw [n65 _ ne1.2.2.2.2.2.2.2, n59 _ ne1.2.2.2.2.2.2.1]
  have cy : CY M65 q p O P V F ns sf ef (e + 1) cnt ix 0 := fun y => by
    obtain ⟨u, eu, gu⟩ := h65.2.2.2 y
    rw [r65] at y
    obtain ⟨y1, y2⟩ := hi y
    refine ⟨y1, y2, u, u, eu, ?_, by omega, by omega, gu.longer (Nat.le_succ_of_le hLe), L, ?_, e, H, F, cd.cg (fun i _ => by rw [O65]) (fun i _ => by rw [P65]), Nat.lt_succ_self _, Nat.le_refl _, fun y hy h7 => ((gu.1 y hy).2 h7).2.2.1⟩
    · rw [← y1, i65, if_pos rfl]
      rw [← y1, i65, if_neg (by omega), n59 (p + 12) (by omega)] at eu
      exact eu
    · rw [n65 (p + 11) (by omega), i59, if_pos y1.symm]
  have wt65 : WTq M65 T A B D n W pl nq sm := (wt.fi h.1 f59).fi h59.1 f65
  have km65 : cmK q p Mc M65 := km.trans ⟨by rw [r65], fun i _ i9 => by rw [n65 _ (neq i i9).2, n59 _ (neq i i9).1], fun i _ => by rw [q65], by rw [n65 _ (by omega), n59 _ (by omega)], by rw [n65 _ (by omega), n59 _ (by omega)]⟩
  have F65 : FT M65 (q + 1) (fst9 ft (0, 0)) := (hF.same (by rw [r65]) (by rw [r65])).none
  have J65 : rcJ T A B D n W pl nq sm Nn Mc q p c k ar nms ft 1 0 a M65 := ⟨wt65, km65, (0, 0), F65, fun _ => by omega, ⟨n4, hka⟩, Or.inl ⟨by decide, Nat.zero_le _, hR, fun ct hl e ne we => ⟨fun u => absurd rfl u, fun _ => by rw [har]; rfl⟩⟩⟩
  refine mWm.mono (x_rc160 hNn (n + 1) 0 M65 1 (e + 1) 0 a (by omega) (by omega) (i32s (by omega) (by omega)) ⟨(f1.trans f59).trans f65, h65.any (fun _ => Nat.le_succ_of_le hLe), cy, by rw [r65]; exact ha, han, by rw [q65]; exact hp, by rw [r65]; exact hd, by rw [r65]; exact h6, hix⟩ (fun _ => hea) (by omega) (fun _ => by omega) J65) (fun r M9 u => ?_)
  obtain ⟨y, u1, u2⟩ := u
  exact ⟨y, u1, hQ y M9 u2⟩
end TXU
end
section
/-! The class's reader of texts, exactly: readCommand. -/
section TXV
variable {G : mG} {d z q w T A B D N C n p O P K Ab Be Cm V F c s L L' cnt a j e nbr i b f Nn : Nat} {M0 M M' M1 M2 Mc Mc' : mM} {ns : Nat → Int} {sf ef : Nat → Nat} {H : Nat → Nat} {W pl nq E : Nat → Int} {sm : Nat → Nat → Prop} {nms : List nm9} {ft fB fS : Int × Int} {zr : List Int}
/-- a command has been read, exactly -/
def ccV (W pl nq : Nat → Int) (sm : Nat → Nat → Prop) (Nn : Nat) (Mc : mM) (q p c cnt a : Nat) (nms : List nm9) (ft : Int × Int) (x : Int) (M' : mM) : Prop := ∃ a' : Nat, mI M' (q + 1) 2 = a' ∧ ((x = 0 ∧ Rf W [50] 0 a') ∨ (x = 1 ∧ ∃ (ar ix : Nat) (E : Nat → Int), (cnt < 60 → ix = cnt) ∧ Eo W 6 (a + 1) ar ∧ W ar = 17 ∧ (CT Mc (q + 1) p nms → nms.length = c → E = E9 sm nms 0) ∧ cmV W pl sm Nn Mc q p c a ar ix nms (fst9 ft (vrf W E pl 1 (a + 1) ar)) 1 M'))
theorem x_rc27 {l1 : Int} (f1 : FI (txS q p O P) M0 M) (i1 : i32 l1) (h : TX M z q w T A B D N C n p O P K Ab Be Cm V F ns sf ef c cnt L) (h60 : cnt = 60 → mI M (q + 1) 3 ≠ 0) (ha : mI M (q + 1) 2 = ((a : Nat) : Int)) (han : a < n) (hs : mI M p 2 = ((L : Nat) : Int)) (hsa : L ≤ a) (hd : mI M (q + 1) 5 = 0) (hNn : n ≤ Nn) (wt : WTq M T A B D n W pl nq sm) (km : cmK q p Mc M) (hF : FT M (q + 1) ft) (hW : W a = 7 ∨ W a = 8) (hR : Rc W [50] 0 [50] a) : h_TR_readCommand_27 G (d + 6) q l1 M (fun x M' => cmQ9 M0 z q w T A B D N C n p O P K Ab Be Cm V F ns sf ef c x M' ∧ ccV W pl nq sm Nn Mc q p c cnt a nms ft x M') := by
  have ap := h.1.apart
  have qp := h.1.2.2.2.2.2.1.2.1
  have rc1 : Rc W [50] 0 [61, 17, 56, 57, 34, 50] (a + 1) := by
    refine hR.trans (Rc.one (mst_n (by decide) (by decide) (ys := [61, 17, 56, 57, 34, 50]) (t := 1) ?_ (Or.inl (by decide))))
    rw [ex_50]
    unfold ex50
    rw [if_neg (by omega), if_neg (by omega), if_neg (by omega), if_pos hW]
  have neq : ∀ i, i ≤ 9 → (q + 1 + i ≠ p + 9 ∧ q + 1 + i ≠ p + 10) := fun i hi => by omega
  have ne1 : q + 1 ≠ p + 9 ∧ q + 1 ≠ p + 10 ∧ p ≠ p + 9 ∧ p ≠ p + 10 ∧ p ≠ q + 1 ∧ q + 21 ≠ q + 1 := by omega
  clear ap qp
  have hN : n ≤ 16384 := by have := h.1.1.2.2.2.1.2.2.1; have := h.1.1.2.2.2.1.1.2.2.2.2.2.2.1; omega
  obtain ⟨t0, t1, t2, t3, t4, t5⟩ := h.1.2.1
  have c12 := h.2.2.1.1
  have c60 := h.2.2.1.2
  obtain ⟨k6, ⟨-, -, -, -, -, -, p13, p14, -⟩, ⟨-, -, -, -, -, -, kp9, kp10, -⟩, ⟨-, -, -, -, -, -, np9, np10, -⟩⟩ := h.tab
  obtain ⟨ix, eix, hix, hcx⟩ : ∃ ix : Nat, (if (59 : Int) < (cnt : Int) then (59 : Int) else (cnt : Int)) = ix ∧ ix ≤ 59 ∧ (cnt < 60 → ix = cnt) := by
    by_cases y : (59 : Int) < cnt
    · exact ⟨59, by rw [if_pos y]; rfl, by omega, by omega⟩
    · exact ⟨cnt, by rw [if_neg y], by omega, fun _ => rfl⟩
  refine k_TR_readCommand_27 h.1.1.1 i1 ?_
  rw [t3, c12, p13, np9, eix, Int.toNat_natCast]
  refine ⟨t0, k6, fun v16 e16 => ⟨kp9, by omega, fun M22 e22 => ?_⟩⟩
  have i16 : i32 v16 := by rw [e16]; split <;> exact i32s (by omega) (by omega)
  obtain ⟨h22, f22, n22, -⟩ := h.up (b := 9) i16 e22 ⟨by omega, by omega⟩ (fun y => absurd y (by omega)) (fun y => absurd y (by omega))
  have r22 := n22 (q + 1) ne1.1
  have a22 : mI M22 (q + 1) 2 = ((a : Nat) : Int) := by rw [r22]; exact ha
  obtain ⟨-, ⟨-, -, -, -, -, -, -, p14', -⟩, ⟨-, -, -, -, -, -, -, kp10', -⟩, ⟨-, -, -, -, -, -, -, np10', -⟩⟩ := h22.tab
  rw [h22.1.2.1.2.1, h22.1.2.1.2.2.2.1, p14']
  refine ⟨h22.1.1.2.2.2.2.1.1, h22.1.1.2.1.1, (s_RR_here h22.1.1 a22 (by omega)).mono (fun x27 M26 k => ?_)⟩
  obtain ⟨e26, -, x0, x1⟩ := k
  subst e26
  rw [np10']
  refine ⟨i32s (by omega) (by omega), h22.1.1.1, kp10', by omega, fun M31 e31 => ?_⟩
  obtain ⟨h31, f31, n31, -⟩ := h22.up (b := 10) (i32s (by omega) (by omega)) e31 ⟨by omega, by omega⟩ (fun y => absurd y (by omega)) (fun y => absurd y (by omega))
  have r31 : mI M31 (q + 1) = mI M (q + 1) := by rw [n31 (q + 1) ne1.2.1, r22]
  have p31 : mI M31 p = mI M p := by rw [n31 p ne1.2.2.2.1, n22 p ne1.2.2.1]
  rw [h31.1.2.1.2.1, r31, ha]
  refine ⟨h31.1.2.1.1, h31.1.1.2.1.1, ⟨by omega, by omega⟩, fun M36 e36 => ?_⟩
  obtain ⟨h36, x36, g36⟩ := tx_ui h31 ⟨by omega, by omega⟩ e36 (Or.inr (Or.inr (Or.inr (Or.inl ⟨rfl, Or.inl rfl⟩))))
  rw [h36.1.2.1.2.1]
  refine ⟨h36.1.1.2.1.1, fun M39 e39 => ?_⟩
  obtain ⟨h39, x39, g39⟩ := tx_ui h36 (i32s (by omega) (by omega)) e39 (Or.inr (Or.inr (Or.inr (Or.inl ⟨rfl, Or.inr (Or.inr rfl)⟩))))
  have a39 : mI M39 (q + 1) 2 = ((a + 1 : Nat) : Int) := by rw [g39, if_neg (fun u => absurd u.2 (by first | decide | simp)), g36, if_pos ⟨rfl, rfl⟩]; rfl
  have d39 : mI M39 (q + 1) 5 = ((0 : Nat) : Int) := by rw [g39, if_neg (fun u => absurd u.2 (by first | decide | simp)), g36, if_neg (fun u => absurd u.2 (by first | decide | simp)), r31]; exact hd
  have c39 : mI M39 (q + 1) 6 = 0 := by rw [g39, if_pos ⟨rfl, rfl⟩]
  have z39 : mI M39 (q + 1) 3 = mI M (q + 1) 3 := by rw [g39, if_neg (fun u => absurd u.2 (by first | decide | simp)), g36, if_neg (fun u => absurd u.2 (by first | decide | simp)), r31]
  have p39 : mI M39 p 2 = ((L : Nat) : Int) := by rw [g39, if_neg (fun u => ne1.2.2.2.2.1 u.1), g36, if_neg (fun u => ne1.2.2.2.2.1 u.1), p31]; exact hs
  have f39 : FI (txS q p O P) M0 M39 := (((f1.trans f22).trans f31).trans x36.1).trans x39.1
  have km39 : cmK q p Mc M39 := by
    refine ((km.trans (M2 := M31) ⟨by rw [r31], fun i _ i9 => by rw [n31 _ (neq i i9).2, n22 _ (neq i i9).1], fun i _ => by rw [p31], by rw [n31 _ (by omega), n22 _ (by omega)], by rw [n31 _ (by omega), n22 _ (by omega)]⟩).trans (cmK.tx x36.2)).trans (cmK.tx x39.2)
  have wt39 : WTq M39 T A B D n W pl nq sm := (((wt.fi h.1 f22).fi h22.1 f31).fi h31.1 x36.1).fi h36.1 x39.1
  have F39 : FT M39 (q + 1) ft := hF.same z39 (by rw [g39, if_neg (fun u => absurd u.2 (by first | decide | simp)), g36, if_neg (fun u => absurd u.2 (by first | decide | simp)), r31])
  clear f22 n22 f31 n31 x36 g36 x39 g39 r22 r31 a22 p31 h22 h31 h36
  refine (x_TR_readItemRule (k := 0) (d0 := 0) (nms := nms) (ft := ft) (zz := [17, 56, 57, 34, 50]) (by omega) (i32s (by omega) (by omega)) h39 a39 (by omega) p39 (Nat.le_refl _) (by omega) d39 (by omega) h39.2.1.2.2.1.nk wt39 F39 (by rw [d39]; rfl) (hz_t (by decide)) rc1).mono (fun x42 M41 kk => ?_)
  obtain ⟨⟨h41, x41, ⟨c41, q41, t41⟩, k41⟩, -, E, Cf, ec, a9, ea9, iv⟩ := kk
  have ec : CT Mc (q + 1) p nms → nms.length = c → E = E9 sm nms 0 := fun ct hl => by
    have u := (ec.2 (ct.cm km39) hl).1
    rw [c39, if_pos rfl] at u
    exact u
  have i42 : i32 x42 := m_b32 (k41.imp (fun u => u.1) (fun u => u.1))
  refine ⟨i42, h41.1.1.1, fun y => ?_, fun y => ?_⟩
  · obtain ⟨-, u⟩ := k41.resolve_right (fun u => by rw [y] at u; exact absurd u.1 (by first | decide | simp))
    refine ⟨⟨f39.trans x41.1, Or.inl ⟨rfl, L, cnt, h41, u⟩⟩, a9, ea9, Or.inl ⟨rfl, ?_⟩⟩
    rcases iv with ⟨-, iv⟩ | ⟨iv, -⟩
    · exact iv
    · rw [y] at iv; exact absurd iv (by first | decide | simp)
  obtain ⟨-, e, H, a', cd, p41, a41, aa, an, ea, d41⟩ := k41.resolve_left (fun u => y u.1)
  clear k41
  obtain ⟨-, L9, v1, v2, v3, v4, v5, v6, v7⟩ := iv.resolve_left (fun u => y u.1)
  clear iv
  have ea9' : a' = a9 := by rw [a41] at ea9; omega
  subst ea9'
  have F41 : FT M41 (q + 1) (fst9 ft (vrf W E pl 1 (a + 1) a')) := irv_ft (x := 0) (l2 := 2) (tr := 1) v5 (by simp)
  have wt41 : WTq M41 T A B D n W pl nq sm := wt39.fi h39.1 x41.1
  clear v1 v2 v4 v5 v6
  rw [h41.1.2.1.2.1]
  refine ⟨h41.1.2.1.1, h41.1.1.2.1.1, (x_tx_accept (x := 18) (i32s (by omega) (by omega)) (by omega) h41 a41 an).mono (fun x49 M48 kk => ?_)⟩
  obtain ⟨i49, o48, -, h48, x48, k48, r48, b48, m48⟩ := kk
  refine ⟨i49, o48, fun y => ?_, fun y => ?_⟩
  · rw [(k48.resolve_left (fun u => by rw [y] at u; exact absurd u.1 (by first | decide | simp))).2]
    exact ⟨⟨f39.trans x41.1, Or.inl ⟨rfl, L, cnt, h41, a', a41, an⟩⟩, a', a41, Or.inl ⟨rfl, rf_t v7 (fun u => m48 y ((wt41.is an (by decide) (by decide)).mpr u)) (by decide)⟩⟩
  obtain ⟨-, e17, a48, an48⟩ := k48.resolve_right (fun u => y u.1)
  have w17 : W a' = 17 := (wt41.is an (by decide) (by decide)).mp e17
  have n4 : no34 W a (a' + 1) := (((no34.sc (W := W) (k := a) (a := a) ⟨Nat.le_refl _, fun j j1 j2 => absurd j2 (by omega)⟩ (by omega)).eo v3).sc (by rw [w17]; decide))
  obtain ⟨-, ⟨nO0, nO1, -, -, -⟩, nP0, nP1, -, -, -⟩ := h41.1.ne
  refine x_rc_guard (nms := nms) (k := a) (ar := a') (Mc := Mc) (Nn := Nn) (W := W) (pl := pl) (sm := sm) (nq := nq) (ft := fst9 ft (vrf W E pl 1 (a + 1) a')) (fun x M9 u => ?_) ((f39.trans x41.1).trans x48.1) h48 hix (fun t => ?_) (cd.cg (fun i _ => by rw [b48 O nO1]) (fun i _ => by rw [b48 P nP1])) (by rw [b48 _ ne1.2.2.2.2.2, t41, if_pos rfl]) (by rw [b48 p ne1.2.2.2.2.1]; exact p41) a48 an48 (by omega) (by rw [r48 5 (by decide), d41]; exact d39) (by rw [r48 6 (by decide), c41]; exact c39) hNn (by omega) (wt41.fi h41.1 x48.1) ((km39.trans (cmK.tx x41.2)).trans (cmK.tx x48.2)) (F41.same (r48 3 (by decide)) (r48 4 (by decide))) n4 (rc_t v7 w17 (by decide)) rfl
  · obtain ⟨u1, b9, u2, u3⟩ := u
    refine ⟨u1, b9, u2, u3.imp (fun v => v) (fun v => ⟨v.1, a', ix, E, hcx, v3, w17, ec, b9, u2, Or.inr ⟨rfl, v.2⟩⟩)⟩
  have t41' : mI M41 (q + 1) 3 = 0 := by rw [r48 3 (by decide)] at t; exact t
  have t39 : mI M39 (q + 1) 3 = 0 := Classical.byContradiction (fun t2 => x41.2.2.1 t2 t41')
  have : cnt ≠ 60 := fun u => h60 u (by rw [← z39]; exact t39)
  exact ⟨hcx (by omega), by omega⟩
theorem x_TR_readCommand {l1 : Int} (i1 : i32 l1) (h : TX M z q w T A B D N C n p O P K Ab Be Cm V F ns sf ef c cnt L) (ha : mI M (q + 1) 2 = ((a : Nat) : Int)) (han : a < n) (hs : mI M p 2 = ((L : Nat) : Int)) (hsa : L ≤ a) (hd : mI M (q + 1) 5 = 0) (hNn : n ≤ Nn) (wt : WTq M T A B D n W pl nq sm) (hF : FT M (q + 1) ft) (hW : W a = 7 ∨ W a = 8) (hR : Rc W [50] 0 [50] a) : Ci G y_TR_readCommand (d + 7) [vr q, vi l1] M (fun x M' => cmQ9 M z q w T A B D N C n p O P K Ab Be Cm V F ns sf ef c x M' ∧ ccV W pl nq sm Nn M q p c cnt a nms (fst9 ft (if cnt < 60 then (0, 0) else (5, pl a))) x M') := by
  obtain ⟨t0, t1, t2, t3, t4, t5⟩ := h.1.2.1
  have c12 := h.2.2.1.1
  refine k_TR_readCommand h.1.1.1 i1 ?_
  rw [t3, t1, c12]
  refine ⟨t0, h.1.1.2.2.2.2.1.1, fun y => x_rc27 FI.refl i1 h (fun u => absurd y (by omega)) ha han hs hsa hd hNn wt cmK.refl (by rw [if_pos (by omega)]; exact hF.none) hW hR, fun y => ⟨h.1.1.2.1.1, (s_RR_here h.1.1 ha (by omega)).mono (fun x7 M6 kk => ?_)⟩⟩
  obtain ⟨e6, ex7, x0, x1⟩ := kk
  subst e6
  refine ⟨i32s (by omega) (by omega), h.1.1.1, h.1.1.2.1.1, (x_tx_note (x := 5) (i32s (by omega) (by omega)) (by omega) (i32s (by omega) (by omega)) h).mono (fun M10 kk => ?_)⟩
  obtain ⟨o10, h10, x10, u3, u4, u5, u6⟩ := kk
  have F10 := u6 ft hF
  rw [ex7, (wt.1 a (Nat.le_of_lt han)).2.2] at F10
  have c60 : ¬ cnt < 60 := fun u => by omega
  obtain ⟨⟨np0, np1, -, -⟩, -, -⟩ := h.1.ne
  exact ⟨o10, x_rc27 x10.1 i1 h10 (fun _ => u3) (by rw [u4 2 (by decide) (by decide)]; exact ha) han (by rw [u5 p np1]; exact hs) hsa (by rw [u4 5 (by decide) (by decide)]; exact hd) hNn (wt.fi h.1 x10.1) (cmK.tx x10.2) (by rw [if_neg c60]; exact F10) hW hR⟩
end TXV
end
