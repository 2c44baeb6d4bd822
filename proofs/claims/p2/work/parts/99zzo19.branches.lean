/-! The class's reader of texts, exactly: a command's branches. -/
section TXT
variable {G : mG} {L0 d z q w T A B D N C n p O P K Ab Be Cm V F c s L L' cnt a a2 j k e ix nbr i b f ar Nn : Nat} {M0 M M' M1 M2 Mc Mc' : mM} {ns : Nat → Int} {sf ef : Nat → Nat} {W pl nq E : Nat → Int} {sm : Nat → Nat → Prop} {nms : List nm9} {ft fB fS : Int × Int} {zr : List Int}
theorem rc56 : Rc W (56 :: zr) a (63 :: 33 :: 58 :: zr) a := Rc.one (mst_n (by decide) (by decide) (ys := [63, 33, 58]) (t := 0) rfl (Or.inl (by decide)))
theorem rc57 (h : W a ≠ 24) : Rc W (57 :: zr) a zr a := Rc.one (mst_n (by decide) (by decide) (ys := []) (t := 0) (by
  show ex57 (W a) = _
  unfold ex57
  rw [if_neg h]) (Or.inl (by decide)))
theorem rc57m (h : W a = 24) : Rc W (57 :: zr) a (56 :: 57 :: zr) (a + 1) := Rc.one (mst_n (by decide) (by decide) (ys := [56, 57]) (t := 1) (by
  show ex57 (W a) = _
  unfold ex57
  rw [if_pos h]) (Or.inl (by decide)))
theorem brfc_e (hpe : e ≤ a) : brf W pl sm Nn nms e f a b = (0, 0) := by
  cases f with
  | zero => rfl
  | succ f => rw [brf, if_pos hpe]
/-- b branches have been read, their fault is fB, the next begins at i; the command begins at k, its arrow stands at ar -/
def brK (W pl : Nat → Int) (sm : Nat → Nat → Prop) (Nn : Nat) (Mc : mM) (q p c k ar : Nat) (nms : List nm9) (fB : Int × Int) (i b : Nat) : Prop := CT Mc (q + 1) p nms → nms.length = c → ∀ e, no34 W k e → W e = 34 → (fB.1 ≠ 0 → brf W pl sm Nn nms e Nn (ar + 1) 0 = fB) ∧ (fB.1 = 0 → brf W pl sm Nn nms e Nn (ar + 1) 0 = brf W pl sm Nn nms e (Nn - b) i b)
theorem rsX.to (h : rsX W pl sm Nn Mc' q p c k nms fS a) (hc : CT Mc (q + 1) p nms → CT Mc' (q + 1) p nms) : rsX W pl sm Nn Mc q p c k nms fS a := h.imp (fun u => u) (fun u => ⟨u.1, fun ct hl => u.2.1 (hc ct) hl, u.2.2⟩)
theorem rsX.no {k0 : Nat} (h : rsX W pl sm Nn Mc q p c k nms fS a) (n4 : no34 W k0 k) : no34 W k0 a ∧ k ≤ a := by
  rcases h with ⟨w10, -, ea⟩ | ⟨-, -, g⟩
  · subst ea
    exact ⟨n4.sc (by rw [w10]; decide), Nat.le_succ k⟩
  · exact ⟨n4.join g, g.1⟩
theorem brK.step (h : brK W pl sm Nn Mc q p c k ar nms fB a i) (hb8 : fB.1 = 0 → i ≤ 8) (hia : i ≤ a) (hka : k + 1 ≤ a) (n4 : no34 W k a) (hNn : n ≤ Nn) (eo : Eo W 6 a j) (w33 : W j = 33) (jn : j < n) (hE : CT Mc (q + 1) p nms → nms.length = c → E = E9 sm nms 0) (rx : rsX W pl sm Nn Mc q p c (j + 1) nms fS a2) : brK W pl sm Nn Mc q p c k ar nms (fst9 (fst9 (fst9 fB (if 8 ≤ i then (5, pl a) else (0, 0))) (vrf W E pl 0 a j)) fS) (a2 + 1) (i + 1) := fun ct hl e ne we => by
  obtain ⟨h1, h2⟩ := h ct hl e ne we
  have aj := eo.pr.1
  by_cases f0 : fB.1 = 0
  · have hb := h2 f0
    have i8 := hb8 f0
    obtain ⟨f, hf⟩ : ∃ f, Nn - i = f + 1 := ⟨Nn - i - 1, by omega⟩
    have hf2 : Nn - (i + 1) = f := by omega
    have ea : ¬ e ≤ a := fun u => by
      by_cases v : e = a
      · have y := eo.rw9 (j := a) (Nat.le_refl _) aj
        rw [← v, we] at y
        unfold rwd at y
        omega
      · exact n4.2 e ne.1 (by omega) we
    have hq : clq W (a - 1) Nn = j := clq_eo (by rw [show a - 1 + 1 = a by omega]; exact eo) w33 (by omega)
    have ev : vrf W E pl 0 a j = rf9 W pl sm nms 0 0 a j := by
      rw [hE ct hl]
      rfl
    rw [hf, brf, if_neg ea, hq, ← ev] at hb
    rw [fst9_zr f0, hf2]
    by_cases b8 : i = 8
    · rw [if_pos b8] at hb
      rw [if_pos (by omega), fst9_n (show ((5 : Int), pl a).1 ≠ 0 by simp), fst9_n (show ((5 : Int), pl a).1 ≠ 0 by simp)]
      exact ⟨fun _ => hb, fun u => absurd u (by first | decide | simp)⟩
    · rw [if_neg b8] at hb
      rw [if_neg (by omega), fst9_0]
      by_cases v0 : (vrf W E pl 0 a j).1 = 0
      · rw [if_neg (fun u => u v0)] at hb
        rw [fst9_zr v0]
        rcases rx with ⟨w10, fs0, ea2⟩ | ⟨w10, so, -⟩
        · rw [if_pos w10] at hb
          rw [fs0, ea2]
          exact ⟨fun u => absurd rfl u, fun _ => hb⟩
        · rw [if_neg w10] at hb
          obtain ⟨g1, g2⟩ := so ct hl
          by_cases s0 : fS.1 = 0
          · obtain ⟨s1, s2⟩ := g2 s0
            have s1 : (sef W pl sm Nn nms Nn (j + 1) []).1.1 = 0 := s1
            have s2 : a2 = (sef W pl sm Nn nms Nn (j + 1) []).2 := s2
            rw [if_neg (fun u => u s1), ← s2] at hb
            exact ⟨fun u => absurd s0 u, fun _ => hb⟩
          · have s1 : (sef W pl sm Nn nms Nn (j + 1) []).1 = fS := g1 s0
            rw [s1, if_pos s0] at hb
            exact ⟨fun _ => hb, fun u => absurd u s0⟩
      · rw [if_pos v0] at hb
        rw [fst9_n v0]
        exact ⟨fun _ => hb, fun u => absurd u v0⟩
  · rw [fst9_n f0, fst9_n f0, fst9_n f0]
    exact ⟨h1, fun u => absurd u f0⟩
/-- before a branch, or behind the last -/
def rcJ (T A B D n V O P L0 cnt : Nat) (W pl nq : Nat → Int) (sm : Nat → Nat → Prop) (Nn : Nat) (Mc : mM) (q p c k ar : Nat) (nms : List nm9) (ft : Int × Int) (l3 : Int) (b a : Nat) (M : mM) : Prop := WTq M T A B D n W pl nq sm ∧ cmK q p Mc M ∧ ∃ fB : Int × Int, FT M (q + 1) (fst9 ft fB) ∧ (fB.1 = 0 → b ≤ 8) ∧ (no34 W k a ∧ k + 1 ≤ a) ∧ ((l3 ≠ 0 ∧ b ≤ a ∧ Rc W [50] 0 [56, 57, 34, 50] a ∧ brK W pl sm Nn Mc q p c k ar nms fB a b ∧ cmR9 W pl nq sm Nn n V q p O P L0 c cnt k ar nms Mc a b M) ∨ (l3 = 0 ∧ Rc W [50] 0 [34, 50] a ∧ brK W pl sm Nn Mc q p c k ar nms fB (a + 1) b ∧ cmR9 W pl nq sm Nn n V q p O P L0 c cnt k ar nms Mc (a + 1) b M))
/-- a command has been read, exactly: from its arrow at ar on -/
def cmV (W pl nq : Nat → Int) (sm : Nat → Nat → Prop) (Nn n V O P L0 cnt : Nat) (Mc : mM) (q p c k ar ix : Nat) (nms : List nm9) (ft : Int × Int) (x : Int) (M' : mM) : Prop := ∃ a' : Nat, mI M' (q + 1) 2 = a' ∧ ((x = 0 ∧ Rf W [50] 0 a') ∨ (x = 1 ∧ ∃ (e : Nat) (fB : Int × Int), a' = e + 1 ∧ W e = 34 ∧ no34 W k e ∧ Rc W [50] 0 [50] (e + 1) ∧ FT M' (q + 1) (fst9 ft fB) ∧ (CT Mc (q + 1) p nms → nms.length = c → (fB.1 ≠ 0 → brf W pl sm Nn nms e Nn (ar + 1) 0 = fB) ∧ (fB.1 = 0 → brf W pl sm Nn nms e Nn (ar + 1) 0 = (0, 0))) ∧ mI M' (q + 1) 19 = mI Mc (q + 1) 19 ∧ (∀ i, 6 ≤ i → i ≤ 9 → mI M' (q + 1 + i) = mI Mc (q + 1 + i)) ∧ (∀ i, i ≠ 2 → mI M' p i = if i = 12 then (ix : Int) + 1 else mI Mc p i) ∧ mI M' (p + 6) = mI Mc (p + 6) ∧ mI M' (p + 7) = mI Mc (p + 7) ∧ ∃ b, (fB.1 = 0 → b ≤ 8) ∧ cmR9 W pl nq sm Nn n V q p O P L0 c cnt k ar nms Mc (e + 1) b M'))
theorem x_rc_end (h : cmI M0 z q w T A B D N C n p O P K Ab Be Cm V F ns sf ef c cnt L ix nbr a M) (hLa : L ≤ a + 1) (e78 : M' = mUI M p 12 ((ix : Int) + 1)) (wt : WTq M T A B D n W pl nq sm) (km : cmK q p Mc M) (hF : FT M (q + 1) (fst9 ft fB)) (n4 : no34 W k a) (hR : Rc W [50] 0 [34, 50] a) (bk : brK W pl sm Nn Mc q p c k ar nms fB (a + 1) b) (hb8 : fB.1 = 0 → b ≤ 8) (cr : cmR9 W pl nq sm Nn n V q p O P L0 c cnt k ar nms Mc (a + 1) b M) : mK M' (mR M' q 0) = 4 ∧ Ci G y_RR_accept d [vr (mR M' q 0), vi 35] M' (fun x82 M81 => i32 x82 ∧ mOk M81 ∧ ((x82 = 0 ∨ x82 = 1) ∧ (cmQ9 M0 z q w T A B D N C n p O P K Ab Be Cm V F ns sf ef c x82 M81 ∧ cmV W pl nq sm Nn n V O P L0 cnt Mc q p c k ar ix nms ft x82 M81))) := by
  obtain ⟨f1, h1, cy, a1, a2, p1, d1, c1, hix⟩ := h
  have ap := h1.1.apart
  have qp := h1.1.2.2.2.2.2.1.2.1
  have f : FI (fun y => y = p) M M' := by rw [e78]; exact FI.ui rfl
  have ok : mOk M' := by rw [e78]; exact mOk_UI h1.1.1.1 ⟨by omega, by omega⟩
  have nb : ∀ y, y ≠ p → mI M' y = mI M y := fun y hy => f.2.2.2.2.2.2 y hy
  have ip : ∀ i, mI M' p i = if i = 12 then (ix : Int) + 1 else mI M p i := fun i => by
    rw [mI_ui _ i e78]
    by_cases y : i = 12
    · rw [if_pos ⟨rfl, y⟩, if_pos y]
    · rw [if_neg (fun t => y t.2), if_neg y]
  have fx : FI (txS q p O P) M M' := f.mono (fun y hy => Or.inr (Or.inr (Or.inr (Or.inl hy))))
  have nO := nb O (by first | (have h1 := ap.2.2.2.1; have h2 := ap.2.1; omega) | omega)
  have nP := nb P (by first | (have h1 := ap.2.2.2.2.1; have h2 := ap.2.2.1; omega) | omega)
  have nr : ∀ i, i ≤ 10 → mI M' (q + i) = mI M (q + i) := fun i hi => nb _ (by omega)
  have h' : TX M' z q w T A B D N C n p O P K Ab Be Cm V F ns sf ef c (ix + 1) L := by
    obtain ⟨hP, ⟨k1, k2, k3, k4⟩, x1, x2⟩ := h1
    refine ⟨hP.fi ok fx, ⟨by rw [ip, if_neg (by decide)]; exact k1, by rw [ip, if_neg (by decide)]; exact k2, ?_, fun j => by rw [nr 6 (by omega)]; exact k4 j⟩, ⟨by rw [ip, if_pos rfl]; omega, by omega⟩, fun y0 => ?_⟩
    · unfold TN at k3 ⊢
      rw [(hP.words fx).1, nr 1 (by omega), show q + 1 + 6 = q + 7 by omega, show q + 1 + 7 = q + 8 by omega, show q + 1 + 8 = q + 9 by omega, show q + 1 + 9 = q + 10 by omega, nr 7 (by omega), nr 8 (by omega), nr 9 (by omega), nr 10 (by omega)]
      exact k3
    · rw [nr 1 (by omega)] at y0
      obtain ⟨g1, g2, u, v, g3, g4, g5, g6, g7, sg, g8, g9⟩ := cy y0
      subst g1
      have cg : ∀ {s h : Nat}, PC M O P V F ns ef L s h → PC M' O P V F ns ef L s h := fun hc => hc.cg (fun i _ => by rw [nO]) (fun i _ => by rw [nP])
      obtain ⟨m1, m2, m3, m4, m5, ⟨uu, m6, m7, m8⟩, m9⟩ := g7.up (M' := M') (by rw [ip, if_neg (by decide)]) (nb _ (by omega)) (nb _ (by omega)) (fun i _ => by rw [nb _ (by omega)]) (fun i hi => by rw [nb _ (by omega)]) (fun b' _ => ⟨by rw [nb _ (by omega)], by rw [nb _ (by omega)]⟩) (fun i _ => ⟨by rw [nO], by rw [nP]⟩)
      have t12 : mI M' (p + 12) = mI M (p + 12) := nb _ (by omega)
      have uu' : uu = u := by
        rw [t12, g3] at m6
        omega
      refine ⟨v, by rw [t12]; exact g4, m1, m2, fun j hj => ?_, m4, fun j hj => ?_, ⟨v, by rw [t12]; exact g4, Nat.le_refl _, by omega⟩, m9⟩
      · by_cases y : j = ix
        · subst y
          exact ⟨sg, by rw [nb _ (by omega)]; exact g8, cg g9⟩
        · exact m3 j (by omega)
      · by_cases y : j = ix
        · subst y
          exact ⟨u, v, by rw [t12]; exact g3, by rw [t12]; exact g4, by omega, by omega⟩
        · exact m5 j (by omega)
  have n1 := nr 1 (by omega)
  clear cy
  rw [h'.1.2.1.2.1]
  refine ⟨h'.1.1.2.1.1, (x_tx_accept (x := 35) (i32s (by omega) (by omega)) (by omega) h' (by rw [n1]; exact a1) a2).mono (fun x82 M81 kk => ?_)⟩
  obtain ⟨i1, o1, hx, h2, x2, k1, r1, b1, m1⟩ := kk
  have wt' : WTq M' T A B D n W pl nq sm := wt.fi h1.1 fx
  have q9 : ∀ i, i ≤ 9 → q + 1 + i ≠ p := fun i hi => by omega
  refine ⟨i1, o1, hx, ?_⟩
  rcases k1 with ⟨e1, e35, a3, an3⟩ | ⟨e1, e2⟩
  · have w34 : W a = 34 := (wt'.is a2 (by decide) (by decide)).mp e35
    have x2e := x2.2
    refine ⟨?_, a + 1, a3, Or.inr ⟨e1, a, fB, rfl, w34, n4, rc_t hR w34 (by decide), hF.same (by rw [r1 3 (by decide), n1]) (by rw [r1 4 (by decide), n1]), fun ct hl => ?_, ?_⟩⟩
    rotate_left
    · obtain ⟨y1, y2⟩ := bk ct hl a n4 w34
      refine ⟨y1, fun y0 => ?_⟩
      rw [y2 y0, brfc_e (Nat.le_succ a)]
    · refine ⟨by rw [(cmK.tx x2e).1, n1]; exact km.1, fun i i6 i9 => by rw [(cmK.tx x2e).2.1 i i6 i9, nb _ (q9 i i9)]; exact km.2.1 i i6 i9, fun i i2 => ?_, by rw [(cmK.tx x2e).2.2.2.1, nb _ (by omega)]; exact km.2.2.2.1, by rw [(cmK.tx x2e).2.2.2.2, nb _ (by omega)]; exact km.2.2.2.2, b, hb8, cr.cg (fun u => by rw [r1 3 (by decide), n1] at u; exact u) (fun i i3 i15 => by rw [b1 _ (by omega), nb _ (by omega)]) (by rw [b1 p (by first | (have h1 := qp; omega) | omega), ip, if_neg (by decide)]) (by rw [b1 p (by first | (have h1 := qp; omega) | omega), ip, if_neg (by decide)]) (by rw [b1 O (by first | (have h1 := ap.2.2.2.1; have h2 := ap.2.1; omega) | omega), nO]) (by rw [b1 P (by first | (have h1 := ap.2.2.2.2.1; have h2 := ap.2.2.1; omega) | omega), nP])⟩
      rw [(cmK.tx x2e).2.2.1 i i2, ip]
      by_cases y : i = 12
      · rw [if_pos y, if_pos y]
      · rw [if_neg y, if_neg y]
        exact km.2.2.1 i i2
    refine ⟨(f1.trans fx).trans x2.1, Or.inr ⟨e1, L, ix + 1, a + 1, h2, by rw [b1 p (by first | (have h1 := qp; omega) | omega), ip, if_neg (by decide)]; exact p1, a3, an3, hLa, by rw [r1 5 (by decide), n1]; exact d1⟩⟩
  · rw [e2]
    exact ⟨⟨f1.trans fx, Or.inl ⟨e1, L, ix + 1, h', a, by rw [n1]; exact a1, a2⟩⟩, a, by rw [n1]; exact a1, Or.inl ⟨e1, rf_t hR (fun u => m1 e1 ((wt'.is a2 (by decide) (by decide)).mpr u)) (by decide)⟩⟩
theorem x_rc201 (h : cmI M0 z q w T A B D N C n p O P K Ab Be Cm V F ns sf ef c cnt L ix nbr a M) (hLa : L ≤ a) (hi : i ≤ n) (hNn : n ≤ Nn) (wt : WTq M T A B D n W pl nq sm) (km : cmK q p Mc M) (hF : FT M (q + 1) (fst9 ft (fst9 fB (if 8 ≤ i then (5, pl a) else (0, 0))))) (hb8 : fB.1 = 0 → i ≤ 8) (hia : i ≤ a) (hka : k + 1 ≤ a) (n4 : no34 W k a) (hR : Rc W [50] 0 [56, 57, 34, 50] a) (bk : brK W pl sm Nn Mc q p c k ar nms fB a i) (cr : cmR9 W pl nq sm Nn n V q p O P L0 c cnt k ar nms Mc a i M) (n8 : mI M (q + 1) 3 = 0 → nbr ≤ i ∧ i < 8) (nx : ∀ (M1 : mM) (l3 : Int) (L' nbr' a' : Nat), i32 l3 → cmI M0 z q w T A B D N C n p O P K Ab Be Cm V F ns sf ef c cnt L' ix nbr' a' M1 → (l3 ≠ 0 → L' ≤ a') → L' ≤ a' + 1 → (mI M1 (q + 1) 3 = 0 → nbr' ≤ i + 1) → rcJ T A B D n V O P L0 cnt W pl nq sm Nn Mc q p c k ar nms ft l3 (i + 1) a' M1 → h_TR_readCommand_160 G (d + 6) q ix l3 ((i : Int) + 1) M1 (fun x M' => cmQ9 M0 z q w T A B D N C n p O P K Ab Be Cm V F ns sf ef c x M' ∧ cmV W pl nq sm Nn n V O P L0 cnt Mc q p c k ar ix nms ft x M')) : h_TR_readCommand_201 G (d + 6) q ix i M (fun x M' => cmQ9 M0 z q w T A B D N C n p O P K Ab Be Cm V F ns sf ef c x M' ∧ cmV W pl nq sm Nn n V O P L0 cnt Mc q p c k ar ix nms ft x M') := by
  obtain ⟨f1, h1, cy, a1, a2, p1, d1, c1, hix⟩ := h
  have hN : n ≤ 16384 := by have := h1.1.1.2.2.2.1.2.2.1; have := h1.1.1.2.2.2.1.1.2.2.2.2.2.2.1; omega
  obtain ⟨⟨np0, np1, -, -⟩, ⟨nO0, nO1, -, -, nOp⟩, nP0, nP1, -, -, nPp⟩ := h1.1.ne
  refine k_TR_readCommand_201 h1.1.1.1 (i32s (by omega) (by omega)) (i32s (by omega) (by omega)) ⟨h1.1.2.1.1, (x_TR_readChance (nms := nms) h1 cy (fun y => by have := n8 y; omega) a1 a2 p1 hLa d1 c1 hix wt hF (hR.trans rc56)).mono (fun x99 M98 kk => ?_)⟩
  obtain ⟨⟨f98, k98⟩, j9, ej9, cv⟩ := kk
  have i99 : i32 x99 := m_b32 (k98.imp (fun u => u.1) (fun u => u.1))
  have o98 : mOk M98 := by
    rcases k98 with ⟨-, u, -⟩ | ⟨-, u, -⟩
    · exact u.1.1.1
    · exact u.1.1.1
  refine ⟨i99, o98, fun y => ?_, fun y => ?_⟩
  · obtain ⟨-, u⟩ := k98.resolve_right (fun u => by rw [y] at u; exact absurd u.1 (by first | decide | simp))
    refine ⟨⟨f1.trans f98, Or.inl ⟨rfl, L, cnt, u⟩⟩, j9, ej9, Or.inl ⟨rfl, ?_⟩⟩
    rcases cv with ⟨-, cv⟩ | ⟨cv, -⟩
    · exact cv
    · exact absurd y (by rw [cv]; decide)
  obtain ⟨-, h98, z98, a', e, a98, an98, p98, Le, ea, d98, c98, cy98, br98⟩ := k98.resolve_left (fun u => y u.1)
  clear k98 cy
  obtain ⟨-, j, E, ej, w33, eo, rc5, F98, hE, km98, Cf, chd⟩ := cv.resolve_left (fun u => y u.1)
  clear cv
  have ea' : a' = j + 1 := by
    rw [a98] at ej9
    omega
  subst ea'
  have wt98 : WTq M98 T A B D n W pl nq sm := wt.fi h1.1 f98
  have kmc := km.trans km98
  have I98 : rsI M98 z q w T A B D N C n p O P K Ab Be Cm V F ns sf ef c cnt L (e + 1) (j + 1) (e + 1) M98 := ⟨h98, txF.refl, a98, an98, p98, Nat.le_refl _, ea, d98, c98, fun _ => ⟨fun _ => 0, fun pc h0 h2 => absurd h0 (by omega), rfl, rfl, Nat.le_refl _⟩, by omega⟩
  refine ⟨h98.1.2.1.1, (x_TR_readSets (nms := nms) rfl hNn h98.2.1.2.2.1 I98 wt98 F98 rc5).mono (fun x105 M104 kk => ?_)⟩
  obtain ⟨⟨f104, k104⟩, b9, eb9, rv⟩ := kk
  have i105 : i32 x105 := m_b32 (k104.imp (fun u => u.1) (fun u => u.1))
  have o104 : mOk M104 := by
    rcases k104 with ⟨-, u, -⟩ | ⟨-, u, -⟩
    · exact u.1.1.1
    · exact u.1.1.1
  refine ⟨i105, o104, fun y => ?_, fun y => ?_⟩
  · obtain ⟨-, u⟩ := k104.resolve_right (fun u => by rw [y] at u; exact absurd u.1 (by first | decide | simp))
    refine ⟨⟨(f1.trans f98).trans f104.1, Or.inl ⟨rfl, L, cnt, u⟩⟩, b9, eb9, Or.inl ⟨rfl, ?_⟩⟩
    rcases rv with ⟨-, rv⟩ | ⟨rv, -⟩
    · exact rv
    · exact absurd y (by rw [rv]; decide)
  obtain ⟨-, h104, a2', s9, a104, an104, p104, es9, sa, d104, c104, cd104⟩ := k104.resolve_left (fun u => y u.1)
  clear k104 I98
  obtain ⟨-, rc6, fS, F104, rx, sE⟩ := rv.resolve_left (fun u => y u.1)
  clear rv
  have eb' : a2' = b9 := by
    rw [a104] at eb9
    omega
  subst eb'
  have wt104 : WTq M104 T A B D n W pl nq sm := wt98.fi h98.1 f104.1
  have km104 := kmc.trans (cmK.tx f104.2)
  have jn : j < n := by omega
  obtain ⟨n6, ja2⟩ := rx.no ((n4.eo eo).sc (by rw [w33]; decide))
  have bk2 := bk.step hb8 hia hka n4 hNn eo w33 jn (fun ct hl => hE (ct.cm km) hl) (rx.to (fun ct => ct.cm kmc))
  rw [fst9_as, fst9_as] at F104
  have ka2 : k + 1 ≤ a2' := Nat.le_trans hka (Nat.le_trans (Nat.le_of_lt eo.pr.1) (Nat.le_trans (Nat.le_succ j) ja2))
  have ia2 : i + 1 ≤ a2' + 1 := Nat.succ_le_succ (Nat.le_trans hia (Nat.le_trans (Nat.le_of_lt eo.pr.1) (Nat.le_trans (Nat.le_succ j) ja2)))
  have cy104 := cy98.tx (f104.less (show L ≤ e + 1 by omega)).2
  have z104 : mI M104 (q + 1) 3 = 0 → mI M98 (q + 1) 3 = 0 := fun t => Classical.byContradiction (fun t2 => f104.2.2.1 t2 t)
  have z0 : mI M98 (q + 1) 3 = 0 → mI M (q + 1) 3 = 0 := fun t => Classical.byContradiction (fun t2 => z98 t2 t)
  have br : mI M104 (q + 1) 3 = 0 → ∃ v s s' : Nat, mI M104 (p + 12) (cnt + 1) = ((v : Nat) : Int) ∧ mI M104 (p + 14) v = ((s : Nat) : Int) ∧ PC M104 O P V F ns ef (s9 + 1) s 1 ∧ mI M104 (p + 15) v = ((s' : Nat) : Int) ∧ PC M104 O P V F ns ef (s9 + 1) s' 0 := fun t => by
    obtain ⟨v, H, b1, b2, b3, b4⟩ := br98 (z104 t)
    obtain ⟨H2, b5⟩ := cd104 t
    obtain ⟨-, -, u', v', -, -, -, -, g7, -⟩ := cy104 t
    have t12 := f104.2.2.2.2.2.1 12 (by omega) (by omega)
    have t14 := f104.2.2.2.2.2.1 14 (by omega) (by omega)
    have t15 := f104.2.2.2.2.2.1 15 (by omega) (by omega)
    have fl : ∀ y, y < F → ns y = 7 → ef y < L := fun y hy h7 => ((g7.1 y hy).2 h7).2.2.1
    refine ⟨v, L, e + 1, by rw [t12]; exact b1, by rw [t14]; exact b2, ⟨e, H, F, b4.cg (fun i hi => (f104.2.2.2.2.2.2 i (by omega)).1) (fun i hi => (f104.2.2.2.2.2.2 i (by omega)).2), by omega, Nat.le_refl _, fl⟩, by rw [t15]; exact b3, ⟨s9, H2, F, b5, Nat.lt_succ_self _, Nat.le_refl _, fun y hy h7 => ?_⟩⟩
    have := fl y hy h7
    omega
  have n8' : mI M104 (q + 1) 3 = 0 → nbr < 8 := fun t => by have := n8 (z0 (z104 t)); omega
  obtain ⟨t1, t2⟩ := s_rc_cnt (M0 := M0) ((f1.trans f98).trans f104.1) h104 cy104 n8' a104 an104 p104 (by omega) d104 c104 hix br
  have tt := h104.tab.2.1.2.2.2.2.2.2.2.2.2.1
  rw [h104.1.2.1.2.1, h104.1.2.1.2.2.2.1, tt]
  refine ⟨h104.1.2.1.1, h104.1.1.2.1.1, t1, fun M120 e120 => ?_⟩
  obtain ⟨nbr', I120, hn'⟩ := t2 M120 e120
  have h120 := I120.2.1
  have a120 := I120.2.2.2.1
  have nn : mI M120 (q + 1) 3 = 0 → nbr' ≤ i + 1 := fun t => by
    have t104 : mI M104 (q + 1) 3 = 0 := by
      by_cases u : mI M104 (q + 1) 3 = 0
      · exact u
      · rw [if_neg u] at e120
        rw [e120] at t
        exact t
    have := n8 (z0 (z104 t104))
    have := hn' t
    omega
  have nb120 : ∀ b, b ≠ p + 12 → mI M120 b = mI M104 b := fun b hb => by
    by_cases u : mI M104 (q + 1) 3 = 0
    · rw [if_pos u] at e120
      have f : FI (fun y => y = p + 12) M104 M120 := by rw [e120]; exact FI.ui rfl
      exact f.2.2.2.2.2.2 b hb
    · rw [if_neg u] at e120
      rw [e120]
  have f120 : FI (txS q p O P) M104 M120 := by
    by_cases u : mI M104 (q + 1) 3 = 0
    · rw [if_pos u] at e120
      rw [e120]
      exact FI.ui (Or.inr (Or.inr (Or.inr (Or.inr (Or.inl ⟨by omega, by omega⟩)))))
    · rw [if_neg u] at e120
      rw [e120]
      exact FI.refl
  have q12 : (∀ i, i ≤ 9 → q + 1 + i ≠ p + 12) ∧ p ≠ p + 12 ∧ p + 6 ≠ p + 12 ∧ p + 7 ≠ p + 12 := by
    have qp := h104.1.2.2.2.2.2.1.2.1
    clear t1 t2 br br98 cy98 cy104 cd104 e120 tt n8 n8' hn' nn nx
    exact ⟨fun i hi => by omega, by omega, by omega, by omega⟩
  have r120 : mI M120 (q + 1) = mI M104 (q + 1) := nb120 _ (q12.1 0 (by omega))
  have km120 : cmK q p Mc M120 := km104.trans ⟨by rw [r120], fun i _ i9 => nb120 _ (q12.1 i i9), fun i _ => by rw [nb120 _ q12.2.1], nb120 _ q12.2.2.1, nb120 _ q12.2.2.2⟩
  have wt120 : WTq M120 T A B D n W pl nq sm := wt104.fi h104.1 f120
  have F120 : FT M120 (q + 1) (fst9 ft (fst9 (fst9 (fst9 fB (if 8 ≤ i then (5, pl a) else (0, 0))) (vrf W E pl 0 a j)) fS)) := by
    have u := F104.same (M' := M120) (by rw [r120]) (by rw [r120])
    simp only [fst9_as] at u ⊢
    exact u
  have n120 : mI M120 (q + 1) 3 = 0 → ∀ t, mI M120 (p + 12) t = if t = ix + 1 then mI M104 (p + 12) (ix + 1) + 1 else mI M104 (p + 12) t := fun z t => by
    rw [if_pos (by rw [r120] at z; exact z), show Int.toNat ((ix : Int) + 1) = ix + 1 by omega] at e120
    rw [mI_ui _ t e120]
    by_cases yt : t = ix + 1
    · rw [if_pos ⟨rfl, yt⟩, if_pos yt]
    · rw [if_neg (fun v => yt v.2), if_neg yt]
  have hix0 : mI M120 (q + 1) 3 = 0 → ix = cnt := fun z => (cy104 (by rw [r120] at z; exact z)).1
  have nOP : O ≠ p + 12 ∧ P ≠ p + 12 := by
    have ap := h104.1.apart
    exact ⟨u7b ap.2.2.2.1 (by decide) (by decide) (by decide), u7b ap.2.2.2.2.1 (by decide) (by decide) (by decide)⟩
  have cr120 : cmR9 W pl nq sm Nn n V q p O P L0 c cnt k ar nms Mc (a2' + 1) (i + 1) M120 := by
    refine cr.branch (M1 := M98) (M2 := M104) (L := L) (s0 := e + 1) (ix := ix) (Cf := Cf) (j := j) p1 (fun ct => ct.cm km) (fun ct => ct.cm kmc) z0 z104 (fun z => by rw [r120] at z; exact z) hix0 chd p98 f104.2 sE n120 nb120 nOP.1 nOP.2 eo w33 jn hNn (by have := eo.pr.1; omega) hka n4 (fun ct hl z => ?_)
    have f0 := F120.1.symm.trans z
    obtain ⟨-, f1⟩ := fst9_1.mp f0
    obtain ⟨f2, f3⟩ := fst9_1.mp f1
    obtain ⟨-, f4⟩ := fst9_1.mp f2
    have eE := hE (ct.cm km) hl
    rw [eE] at f4
    refine ⟨(fst9_1.mp f4).1, ?_⟩
    rcases rx with ⟨r1, -, r3⟩ | ⟨r1, r2, -⟩
    · exact Or.inl ⟨r1, r3⟩
    · exact Or.inr ⟨r1, ((r2 (ct.cm kmc) hl).2 f3).2⟩
  clear t1 t2 br br98 cy98 cy104 cd104 e120 tt n8 n8' hn'
  rw [h120.1.2.1.2.1]
  refine ⟨h120.1.1.1, h120.1.1.2.1.1, (x_tx_accept (x := 25) (i32s (by omega) (by omega)) (by omega) h120 a120 an104).mono (fun x126 M125 kk => ?_)⟩
  obtain ⟨i126, o125, hx126, h125, x125, k125, r125, b125, m125⟩ := kk
  have wt125 : WTq M125 T A B D n W pl nq sm := wt120.fi h120.1 x125.1
  have km125 := km120.trans (cmK.tx x125.2)
  have F125 := F120.same (r125 3 (by decide)) (r125 4 (by decide))
  have pq1 : ∀ i, i ≤ 15 → p + i ≠ q + 1 := fun i hi => by
    have qp := h104.1.2.2.2.2.2.1.2.1
    omega
  have cr125 := cr120.cg (M' := M125) (fun u => by rw [r125 3 (by decide)] at u; exact u) (fun i _ i15 => b125 _ (pq1 i i15)) (by rw [b125 p np1]) (by rw [b125 p np1]) (b125 O nO1) (b125 P nP1)
  have z8 : (fst9 (fst9 (fst9 fB (if 8 ≤ i then (5, pl a) else (0, 0))) (vrf W E pl 0 a j)) fS).1 = 0 → i + 1 ≤ 8 := fun u => by
    have u1 := (fst9_1.mp (fst9_1.mp (fst9_1.mp u).1).1).2
    by_cases v : 8 ≤ i
    · rw [if_pos v] at u1
      exact absurd u1 (by first | decide | simp)
    · omega
  obtain ⟨j1, j2, j3, j4, j5, j6, j7, j8, j9⟩ := I120
  have Y : mI M125 (q + 1) 3 = 0 → nbr' ≤ i + 1 := fun t => nn (Classical.byContradiction (fun t2 => x125.2.2.1 t2 t))
  refine ⟨i126, o125, ?_⟩
  rcases k125 with ⟨e1, e24, a125, an125⟩ | ⟨e1, e2⟩
  · have w24 : W a2' = 24 := (wt120.is an104 (by decide) (by decide)).mp e24
    exact nx M125 x126 (s9 + 1) nbr' (a2' + 1) i126 ⟨j1.trans x125.1, h125, j3.tx x125.2, a125, an125, by rw [b125 p np1]; exact j6, by rw [r125 5 (by decide)]; exact j7, by rw [r125 6 (by decide)]; exact j8, j9⟩ (fun _ => by omega) (by omega) Y ⟨wt125, km125, _, F125, z8, ⟨n6.sc (by rw [w24]; decide), Nat.le_succ_of_le ka2⟩, Or.inl ⟨by rw [e1]; decide, ia2, rc6.trans (rc57m w24), bk2, cr125⟩⟩
  · have w24 : W a2' ≠ 24 := fun u => m125 e1 ((wt120.is an104 (by decide) (by decide)).mpr u)
    exact nx M125 x126 (s9 + 1) nbr' a2' i126 ⟨j1.trans x125.1, h125, j3.tx x125.2, by rw [e2]; exact j4, j5, by rw [b125 p np1]; exact j6, by rw [r125 5 (by decide)]; exact j7, by rw [r125 6 (by decide)]; exact j8, j9⟩ (fun t => absurd e1 t) (by omega) Y ⟨wt125, km125, _, F125, z8, ⟨n6, ka2⟩, Or.inr ⟨e1, rc6.trans (rc57 w24), bk2, cr125⟩⟩
end TXT
