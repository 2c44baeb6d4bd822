section
section
variable {G : mG} {d z q w T A B D N C n p O P K Ab Be Cm V F c s L cnt a k e ix nbr : Nat} {M0 M M' M1 M2 : mM} {ns : Nat → Int} {sf ef : Nat → Nat} {W pl nq : Nat → Int} {sm : Nat → Nat → Prop} {nms : List nm9} {ft : Int × Int}
theorem x_TR_readChance (h : TX M z q w T A B D N C n p O P K Ab Be Cm V F ns sf ef c cnt L) (cy : CY M q p O P V F ns sf ef L cnt ix nbr) (n8 : mI M (q + 1) 3 = 0 → nbr < 8) (ha : mI M (q + 1) 2 = ((a : Nat) : Int)) (han : a ≤ n) (hs : mI M p 2 = ((L : Nat) : Int)) (hsa : L ≤ a) (hd : mI M (q + 1) 5 = 0) (h6 : mI M (q + 1) 6 = 0) (hix : ix ≤ 59) (wt : WTq M T A B D n W pl nq sm) (hF : FT M (q + 1) ft) (hR : Rc W [50] 0 [63, 33, 58, 57, 34, 50] a) : Ci G y_TR_readChance (d + 5) [vr q, vi ix] M (fun x M' => chQ9 M z q w T A B D N C n p O P K Ab Be Cm V F ns sf ef c cnt L ix nbr x M' ∧ chV W pl nq sm q p O P n c L ix a nms ft M x M') := by
  obtain ⟨⟨np0, np1, -, -⟩, ⟨nO0, nO1, -, -, nOp⟩, nP0, nP1, -, -, nPp⟩ := h.1.ne
  obtain ⟨q01, q10, q210, q211, -⟩ := q_ne q
  have hN : n ≤ 16384 := by have := h.1.1.2.2.2.1.2.2.1; have := h.1.1.2.2.2.1.1.2.2.2.2.2.2.1; omega
  obtain ⟨t0, t1, t2, t3, t4, t5⟩ := h.1.2.1
  refine k_TR_readChance h.1.1.1 (i32s (by omega) (by omega)) ?_
  rw [t1]
  refine ⟨t0, h.1.1.2.1.1, (s_RR_here h.1.1 ha han).mono (fun x4 M3 k => ?_)⟩
  obtain ⟨e3, ex4, x0, x1⟩ := k
  subst e3
  have e4 : x4 = pl a := by rw [ex4]; exact (wt.1 a han).2.2
  have i4 : i32 x4 := i32s (by omega) (by omega)
  rw [t1, t3, hs]
  have hw3 : ∀ i, i < c → ∃ v : Nat, mI M3 (q + 1 + 6) i = v ∧ v < n ∧ mI M3 A v = 2 := fun i hi => (h.2.1.2.2.1.2.2 i hi).1
  obtain ⟨E, Cf, uq, big, ec⟩ := uq_ex (p := p) (nms := nms) (c := c) wt hw3 h6
  have lf9 : CT M3 (q + 1) p nms → nms.length = c → LfC W nq sm n nms Cf := fun ct hl => ECq.lf (c := c) (E := E) (M := M3) (r := q + 1) (p := p) ⟨big, ec⟩ ct hl (fun i hi => (h.2.1.2.2.1.2.2 i hi).2.2)
  have ec : CT M3 (q + 1) p nms → nms.length = c → E = E9 sm nms 0 := fun ct hl => (ec ct hl).1
  refine ⟨i4, h.1.1.1, t0, h.1.1.2.2.2.2.1.1, h.1.1.2.1.1, (x_tx_rule (u := (W, E, pl, Cf, (a, ft), ([33, 58, 57, 34, 50], 5), ([50], 0))) (d0 := 0) (i32s (by omega) (by omega)) (i32s (by omega) (by omega)) h ha han hs (Nat.le_refl _) hsa hd (by omega) h.2.1.2.2.1.nk (uq _) rfl hF (by rw [hd]; rfl) ⟨fun _ => rfl, fun y => absurd rfl y⟩ hz33 hR).mono (fun x10 M9 k => ?_)⟩
  obtain ⟨i10, o9, ⟨h9, x9, ⟨c9, -⟩, k9⟩, a9, ea9, rv⟩ := k
  refine ⟨i10, o9, fun y => ?_, fun y => ?_⟩
  · obtain ⟨-, u⟩ := k9.resolve_right (fun u => by rw [y] at u; exact absurd u.1 (by first | decide | simp))
    refine ⟨⟨x9.1, Or.inl ⟨rfl, h9, u⟩⟩, a9, ea9, Or.inl ⟨rfl, ?_⟩⟩
    rcases rv with ⟨-, rv⟩ | ⟨rv, -⟩
    · exact rv
    · exact absurd y (by rw [rv]; decide)
  obtain ⟨-, e, H, a', u1, u2, u3, u4, u5, u6, u7, u8, u9, u10⟩ := k9.resolve_left (fun u => y u.1)
  clear k9
  have ea' : a' = a9 := by
    rw [u6] at ea9
    clear rv u1
    omega
  obtain ⟨L9, q1, q2, q3, q4, q5, q6, q7⟩ : rlD (W, E, pl, Cf, (a, ft), ([33, 58, 57, 34, 50], 5), ([50], 0)) (q + 1) p O P L a9 _ M9 := (rv.resolve_left (fun u => y u.1)).2
  clear rv uq
  have q5 : Cd W Cf pl (mI M9 O) (mI M9 P) 0 0 0 a a9 L L9 := q5
  have eL9 : e = L9 := by rw [u5] at q1; omega
  subst eL9
  subst ea'
  have q2 : Eo W 6 a a' := q2
  have q7 : Rc W [50] 0 [33, 58, 57, 34, 50] a' := q7
  have q4 : FT M9 (q + 1) (fst9 ft (vrf W E pl 0 a a')) := irv_ft (x := 0) (l2 := 1) (tr := 0) q4 (by simp)
  have wt9 : WTq M9 T A B D n W pl nq sm := wt.fi h.1 x9.1
  rw [h9.1.2.1.2.2.2.1]
  refine ⟨h9.1.2.1.1, h9.1.1.2.2.2.2.1.1, (s_tx_add (i32s (by omega) (by omega)) (i32s (by omega) (by omega)) h9 u5 (by omega) (by omega)).mono (fun x17 M16 k => ?_)⟩
  obtain ⟨v1, v2, v3, v4, v5, v6, v7, v8⟩ := k
  have e1 := v8 (q + 1) np1.symm nO1.symm nP1.symm
  have f16 : txF M3 q p O P L M16 := x9.trans (v4.less (by omega))
  have cy16 := cy.tx f16.2
  have wt16 : WTq M16 T A B D n W pl nq sm := wt9.fi h9.1 v4.1
  have F16 : FT M16 (q + 1) (fst9 ft (vrf W E pl 0 a a')) := q4.same (by rw [e1]) (by rw [e1])
  have K16 : cmK q p M3 M16 := cmK.tx f16.2
  have cd : Cod M16 O P V F ns L e H 1 := by
    refine ⟨fun pc h0 h2 => ?_, u2, u3, u4, by rw [v6, if_pos rfl], by omega⟩
    rw [v6, v7, if_neg (by omega), if_neg (by omega)]
    exact u1 pc h0 h2
  have a16 : mI M16 (q + 1) 2 = ((a' : Nat) : Int) := by rw [e1]; exact u6
  have d16 : mI M16 (q + 1) 5 = 0 := by rw [e1, u10]; exact hd
  have c16 : mI M16 (q + 1) 6 = 0 := by rw [e1, c9]; exact h6
  obtain ⟨w0, w1, w2, w3, w4, w5⟩ := v3.1.2.1
  obtain ⟨k6, ⟨-, -, -, -, -, -, -, -, -, p16, p17, p18, p19⟩, ⟨-, -, -, -, -, -, -, -, -, kp12, kp13, kp14, kp15⟩, ⟨-, -, -, -, -, -, -, -, -, np12, np13, np14, np15⟩⟩ := v3.tab
  have q516 : Cd W Cf pl (mI M16 O) (mI M16 P) 0 0 0 a a' L e := q5.cg (fun t _ t2 => ⟨by rw [v6, if_neg (by omega)], by rw [v7, if_neg (by omega)]⟩)
  have o16 : mI M16 O e = 0 := by rw [v6, if_pos rfl]
  clear u1 u2 u3 u5 u6 u10 c9 h9 x9 v4 v6 v7 v8 q5
  rw [w1, w3, p16, p17, np12, np13]
  refine ⟨v1, v2, w0, v3.1.1.2.1.1, fun y0 => ?_, fun y0 => ?_⟩
  · obtain ⟨g1, g2, u, v, g3, g4, g5, g6, g7, -⟩ := cy16 y0
    have n8' : nbr < 8 := n8 (by
      have := f16.2.2.1
      exact Classical.byContradiction (fun t => this t y0))
    obtain ⟨u', g9, -, g10⟩ := g7.2.2.2.2.2.1
    have vb : v < 480 := by
      rw [g3] at g9
      omega
    have gv : mI M16 (p + 12) (Int.toNat ((ix : Int) + 1)) = ((v : Nat) : Int) := by
      rw [show Int.toNat ((ix : Int) + 1) = cnt + 1 by first | rfl | omega]
      exact g4
    rw [gv, Int.toNat_natCast]
    refine ⟨k6, kp12, by omega, kp13, by omega, fun M37 e37 => ?_⟩
    have f37 : FI (fun b => b = p + 13) M16 M37 := by rw [e37]; exact FI.ui rfl
    rw [f37.1, f37.2.1, f37.2.2.1, w3, p18, np14]
    refine ⟨k6, kp14, by omega, fun M42 e42 => ?_⟩
    have f42 : FI (fun b => b = p + 14) M37 M42 := by rw [e42]; exact FI.ui rfl
    have p42 : mI M42 p 2 = ((e + 1 : Nat) : Int) := by rw [f42.2.2.2.2.2.2 p (by omega), f37.2.2.2.2.2.2 p (by omega)]; exact v5
    rw [f42.1, f42.2.1, f42.2.2.1, f37.1, f37.2.1, f37.2.2.1, w3, p19, np15, p42]
    refine ⟨k6, kp15, by omega, fun M47 e47 => ?_⟩
    have f47 : FI (fun b => b = p + 15) M42 M47 := by rw [e47]; exact FI.ui rfl
    have o47 : mOk M47 := by rw [e47]; exact mOk_UI (by rw [e42]; exact mOk_UI (by rw [e37]; exact mOk_UI v2 i4) ⟨by omega, by omega⟩) ⟨by omega, by omega⟩
    have ff : FI (fun b => b = p + 13 ∨ b = p + 14 ∨ b = p + 15) M16 M47 := ((f37.mono (fun _ y => Or.inl y)).trans (f42.mono (fun _ y => Or.inr (Or.inl y)))).trans (f47.mono (fun _ y => Or.inr (Or.inr y)))
    have e13 : ∀ i, mI M47 (p + 13) i = if i = v then pl a else mI M16 (p + 13) i := fun i => by
      rw [f47.2.2.2.2.2.2 _ (by omega), f42.2.2.2.2.2.2 _ (by omega), mI_ui _ i e37]
      by_cases yv : i = v
      · rw [if_pos ⟨rfl, yv⟩, if_pos yv, e4]
      · rw [if_neg (fun t => yv t.2), if_neg yv]
    have e14 : ∀ i, mI M47 (p + 14) i = if i = v then ((L : Nat) : Int) else mI M16 (p + 14) i := fun i => by
      rw [f47.2.2.2.2.2.2 _ (by omega), mI_ui _ i e42]
      by_cases yv : i = v
      · rw [if_pos ⟨rfl, yv⟩, if_pos yv]
      · rw [if_neg (fun t => yv t.2), if_neg yv, f37.2.2.2.2.2.2 _ (by omega)]
    have e15 : ∀ i, mI M47 (p + 15) i = if i = v then ((e + 1 : Nat) : Int) else mI M16 (p + 15) i := fun i => by
      rw [mI_ui _ i e47]
      by_cases yv : i = v
      · rw [if_pos ⟨rfl, yv⟩, if_pos yv]
      · rw [if_neg (fun t => yv t.2), if_neg yv, f42.2.2.2.2.2.2 _ (by omega), f37.2.2.2.2.2.2 _ (by omega)]
    have apO : (q + 1 ≠ p + 13 ∧ q + 1 ≠ p + 14 ∧ q + 1 ≠ p + 15) ∧ (O ≠ p + 13 ∧ O ≠ p + 14 ∧ O ≠ p + 15) ∧ (P ≠ p + 13 ∧ P ≠ p + 14 ∧ P ≠ p + 15) ∧ p + 12 ≠ q + 1 := by
      have ap := v3.1.apart
      have qp := v3.1.2.2.2.2.2.1.2.1
      clear v3 cy16 cy h cd g7 e14 e15
      exact ⟨⟨u7d qp (by omega) (by omega) (by decide), u7d qp (by omega) (by omega) (by decide), u7d qp (by omega) (by omega) (by decide)⟩, ⟨u7b ap.2.2.2.1 (by decide) (by decide) (by decide), u7b ap.2.2.2.1 (by decide) (by decide) (by decide), u7b ap.2.2.2.1 (by decide) (by decide) (by decide)⟩, ⟨u7b ap.2.2.2.2.1 (by decide) (by decide) (by decide), u7b ap.2.2.2.2.1 (by decide) (by decide) (by decide), u7b ap.2.2.2.2.1 (by decide) (by decide) (by decide)⟩, fun e => u7d qp (x := q + 1) (by omega) (by omega) (by decide) e.symm⟩
    have apQ : ∀ i, i ≤ 9 → q + 1 + i ≠ p + 13 ∧ q + 1 + i ≠ p + 14 ∧ q + 1 + i ≠ p + 15 := fun i i9 => by
      have qp := v3.1.2.2.2.2.2.1.2.1
      clear v3 cy16 cy h cd g7 e14 e15
      omega
    obtain ⟨h47, cy47, fx47, nb⟩ := tx_br (x := ((e + 1 : Nat) : Int)) v3 cy16 y0 g4 o47 ff e14 e15
    clear f37 f42 f47 ff e37 e42 e47 p42 cy16
    have r47 := nb (q + 1) apO.1.1 apO.1.2.1 apO.1.2.2
    have nO47 := nb O apO.2.1.1 apO.2.1.2.1 apO.2.1.2.2
    have nP47 := nb P apO.2.2.1.1 apO.2.2.1.2.1 apO.2.2.1.2.2
    have p47 := nb p (by first | (have h1 := qp; omega) | omega) (by first | (have h1 := qp; omega) | omega) (by first | (have h1 := qp; omega) | omega)
    have t12 := nb (p + 12) (by omega) (by omega) (by omega)
    have wt47 : WTq M47 T A B D n W pl nq sm := wt16.fi v3.1 fx47
    have F47 : FT M47 (q + 1) (fst9 ft (vrf W E pl 0 a a')) := F16.same (by rw [r47]) (by rw [r47])
    have K47 : cmK q p M3 M47 := K16.trans ⟨by rw [r47], fun i i6 i9 => nb _ (apQ i i9).1 (apQ i i9).2.1 (apQ i i9).2.2, fun i _ => by rw [p47], nb _ (by omega) (by omega) (by omega), nb _ (by omega) (by omega) (by omega)⟩
    rw [h47.1.2.1.2.1]
    refine ⟨h47.1.1.2.1.1, (x_tx_accept (x := 34) (i32s (by omega) (by omega)) (by omega) h47 (by rw [r47]; exact a16) u8).mono (fun x51 M50 k => ?_)⟩
    obtain ⟨i51, o50, hx51, h50, x50, k50, r50, b50, m50⟩ := k
    refine ⟨i51, o50, hx51, ?_⟩
    rcases k50 with ⟨e51, e33, a50, an50⟩ | ⟨e51, e2⟩
    · have w33 : W a' = 33 := (wt47.is u8 (by decide) (by decide)).mp e33
      have pq1 : ∀ i, i ≤ 15 → p + i ≠ q + 1 := fun i hi => by
        have qp := v3.1.2.2.2.2.2.1.2.1
        omega
      have t16 := f16.2.2.2.2.2.1
      have chd : chD W pl nq sm Cf q p O P n c L ix a a' nms M3 M50 := by
        refine ⟨fun _ => ⟨fun i i3 i12 => by rw [b50 _ (pq1 i (by omega)), nb _ (by omega) (by omega) (by omega), t16 i i3 (by omega)], by rw [b50 p np1, p47, f16.2.2.2.2.1 11 (by decide)], v, e, ?_, fun t => ?_, by rw [b50 p np1, p47]; exact v5, by rw [b50 O nO1, nO47]; exact o16, q516.cg (fun t _ _ => ⟨by rw [b50 O nO1, nO47], by rw [b50 P nP1, nP47]⟩), fun t ht => ?_⟩, lf9⟩
        · rw [g1, ← t16 12 (by omega) (by omega)]; exact g4
        · rw [b50 _ (pq1 13 (by omega)), b50 _ (pq1 14 (by omega)), b50 _ (pq1 15 (by omega)), e13, e14, e15, t16 13 (by omega) (by omega), t16 14 (by omega) (by omega), t16 15 (by omega) (by omega)]
          exact ⟨rfl, rfl, rfl⟩
        · rw [b50 O nO1, nO47, b50 P nP1, nP47]
          exact f16.2.2.2.2.2.2 t ht
      refine ⟨?_, a' + 1, a50, Or.inr ⟨e51, a', E, rfl, w33, q2, rc_t q7 w33 (by decide), F47.same (r50 3 (by decide)) (r50 4 (by decide)), ec, K47.trans (cmK.tx x50.2), Cf, chd⟩⟩
      refine ⟨(f16.1.trans fx47).trans x50.1, Or.inr ⟨e51, h50, fun t => x50.2.2.1 (by rw [r47]; exact f16.2.2.1 t), a' + 1, e, a50, an50, by rw [b50 p np1, p47]; exact v5, by omega, by omega, by rw [r50 5 (by decide), r47]; exact d16, by rw [r50 6 (by decide), r47]; exact c16, cy47.tx x50.2, fun _ => ⟨v, H, by rw [b50 _ apO.2.2.2, t12]; exact g4, by rw [b50 _ apO.1.2.1.symm, e14, if_pos rfl], by rw [b50 _ apO.1.2.2.symm, e15, if_pos rfl], cd.cg (fun i _ => by rw [b50 O nO1, nO47]) (fun i _ => by rw [b50 P nP1, nP47])⟩⟩⟩
    · rw [e2]
      exact ⟨⟨f16.1.trans fx47, Or.inl ⟨e51, h47, a', by rw [r47]; exact a16, u8⟩⟩, a', by rw [r47]; exact a16, Or.inl ⟨e51, rf_t q7 (fun u => m50 e51 ((wt47.is u8 (by decide) (by decide)).mpr u)) (by decide)⟩⟩
  · refine (x_tx_accept (x := 34) (i32s (by omega) (by omega)) (by omega) v3 a16 u8).mono (fun x51 M50 k => ?_)
    obtain ⟨i51, o50, hx51, h50, x50, k50, r50, b50, m50⟩ := k
    refine ⟨i51, o50, hx51, ?_⟩
    rcases k50 with ⟨e51, e33, a50, an50⟩ | ⟨e51, e2⟩
    · have w33 : W a' = 33 := (wt16.is u8 (by decide) (by decide)).mp e33
      refine ⟨?_, a' + 1, a50, Or.inr ⟨e51, a', E, rfl, w33, q2, rc_t q7 w33 (by decide), F16.same (r50 3 (by decide)) (r50 4 (by decide)), ec, K16.trans (cmK.tx x50.2), Cf, fun t => absurd t (x50.2.2.1 y0), lf9⟩⟩
      exact ⟨f16.1.trans x50.1, Or.inr ⟨e51, h50, fun t => x50.2.2.1 (f16.2.2.1 t), a' + 1, e, a50, an50, by rw [b50 p np1]; exact v5, by omega, by omega, by rw [r50 5 (by decide)]; exact d16, by rw [r50 6 (by decide)]; exact c16, cy16.tx x50.2, fun t => absurd t (x50.2.2.1 y0)⟩⟩
    · rw [e2]
      exact ⟨⟨f16.1, Or.inl ⟨e51, v3, a', a16, u8⟩⟩, a', a16, Or.inl ⟨e51, rf_t q7 (fun u => m50 e51 ((wt16.is u8 (by decide) (by decide)).mpr u)) (by decide)⟩⟩
end
end
