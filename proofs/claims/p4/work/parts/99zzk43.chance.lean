/-! The class's reader of texts: a command's chances. -/
section TRN
variable {G : mG} {d z q w T A B D N C n p O P K Ab Be Cm V F c s s' L L' cnt Bn a d0 V1 F1 nw k e s9 S0 wd ix nbr u v Ab0 Be0 Cm0 Ab1 Be1 Cm1 : Nat} {M0 M M' M1 M2 : mM} {ns ns' ns1 : Nat → Int} {sf ef sf' ef' : Nat → Nat} {H H1 : Nat → Nat} {S R : Nat → Prop}
theorem PG.cg (h : PG M p O P V F ns sf ef L cnt Bn) (h11 : mI M' p 11 = mI M p 11) (f6 : ∀ i, 7 ≤ i → i ≤ 12 → mI M' (p + i) = mI M (p + i)) (fb : ∀ b, b < Bn → mI M' (p + 14) b = mI M (p + 14) b ∧ mI M' (p + 15) b = mI M (p + 15) b) (f7 : ∀ i, i < L → mI M' O i = mI M O i ∧ mI M' P i = mI M P i) : PG M' p O P V F ns sf ef L cnt Bn := by
  obtain ⟨g1, g2, g3, g4, g5, g6, g7⟩ := h
  have cg : ∀ {s h : Nat}, PC M O P V F ns ef L s h → PC M' O P V F ns ef L s h := fun hc => hc.cg (fun i hi => (f7 i hi).1) (fun i hi => (f7 i hi).2)
  refine ⟨g1.cg (fun i hi => (f7 i hi).1) (fun i hi => (f7 i hi).2) (fun i _ => by rw [f6 7 (by omega) (by omega)]) (fun i _ => by rw [f6 8 (by omega) (by omega)]), ?_, fun j hj => ?_, by rw [f6 12 (by omega) (by omega)]; exact g4, by rw [f6 12 (by omega) (by omega)]; exact g5, by rw [f6 12 (by omega) (by omega)]; exact g6, fun b hb => ?_⟩
  · rw [h11]
    exact g2.imp (fun y => y) (fun ⟨s, y1, y2⟩ => ⟨s, y1, cg y2⟩)
  · obtain ⟨s, y1, y2⟩ := g3 j hj
    exact ⟨s, by rw [f6 11 (by omega) (by omega)]; exact y1, cg y2⟩
  · obtain ⟨s1, s2, y1, y2, y3, y4⟩ := g7 b hb
    exact ⟨s1, s2, by rw [(fb b hb).1]; exact y1, cg y2, by rw [(fb b hb).2]; exact y3, cg y4⟩
/-- a command that is being read: its guard, and nbr branches -/
def CY (M : mM) (q p O P V F : Nat) (ns : Nat → Int) (sf ef : Nat → Nat) (L cnt ix nbr : Nat) : Prop := mI M (q + 1) 3 = 0 → ix = cnt ∧ cnt < 60 ∧ ∃ u v : Nat, mI M (p + 12) cnt = ((u : Nat) : Int) ∧ mI M (p + 12) (cnt + 1) = ((v : Nat) : Int) ∧ v = u + nbr ∧ nbr ≤ 8 ∧ PG M p O P V F ns sf ef L cnt v ∧ ∃ s : Nat, mI M (p + 11) cnt = ((s : Nat) : Int) ∧ PC M O P V F ns ef L s 1
theorem CY.cg (h : CY M q p O P V F ns sf ef L cnt ix nbr) (f3 : mI M (q + 1) 3 ≠ 0 → mI M' (q + 1) 3 ≠ 0) (h11 : mI M' p 11 = mI M p 11) (f6 : ∀ i, 7 ≤ i → i ≤ 12 → mI M' (p + i) = mI M (p + i)) (fb : ∀ v, mI M (p + 12) (cnt + 1) = ((v : Nat) : Int) → ∀ b, b < v → mI M' (p + 14) b = mI M (p + 14) b ∧ mI M' (p + 15) b = mI M (p + 15) b) (f7 : ∀ i, i < L → mI M' O i = mI M O i ∧ mI M' P i = mI M P i) : CY M' q p O P V F ns sf ef L cnt ix nbr := fun h0 => by
  obtain ⟨a1, a2, u, v, b1, b2, b3, b4, b5, s, b6, b7⟩ := h (Classical.byContradiction (fun y => f3 y h0))
  exact ⟨a1, a2, u, v, by rw [f6 12 (by omega) (by omega)]; exact b1, by rw [f6 12 (by omega) (by omega)]; exact b2, b3, b4, b5.cg h11 f6 (fb v b2) f7, s, by rw [f6 11 (by omega) (by omega)]; exact b6, b7.cg (fun i hi => (f7 i hi).1) (fun i hi => (f7 i hi).2)⟩
theorem CY.tx (h : CY M q p O P V F ns sf ef L cnt ix nbr) (f : txE M q p O P L M') : CY M' q p O P V F ns sf ef L cnt ix nbr := by
  obtain ⟨f2, f3, f4, f5, f6, f7⟩ := f
  exact h.cg f3 (f5 11 (by decide)) (fun i _ _ => f6 i (by omega) (by omega)) (fun v _ b _ => ⟨by rw [f6 14 (by omega) (by omega)], by rw [f6 15 (by omega) (by omega)]⟩) f7
theorem CY.longer (h : CY M q p O P V F ns sf ef L cnt ix nbr) (hL : L ≤ L') : CY M q p O P V F ns sf ef L' cnt ix nbr := fun h0 => by
  obtain ⟨a1, a2, u, v, b1, b2, b3, b4, b5, s, b6, b7⟩ := h h0
  exact ⟨a1, a2, u, v, b1, b2, b3, b4, b5.longer hL, s, b6, b7.wide (Nat.le_refl _) (Nat.le_refl _) hL (fun _ _ => ⟨rfl, rfl⟩)⟩
/-- what readChance comes to -/
def chQ9 (M0 : mM) (z q w T A B D N C n p O P K Ab Be Cm V F : Nat) (ns : Nat → Int) (sf ef : Nat → Nat) (c cnt L ix nbr : Nat) (x : Int) (M : mM) : Prop := FI (txS q p O P) M0 M ∧ ((x = 0 ∧ nstQ z q w T A B D N C n p O P K Ab Be Cm V F ns sf ef c cnt L M) ∨ (x = 1 ∧ TX M z q w T A B D N C n p O P K Ab Be Cm V F ns sf ef c cnt L ∧ (mI M0 (q + 1) 3 ≠ 0 → mI M (q + 1) 3 ≠ 0) ∧ ∃ a e : Nat, mI M (q + 1) 2 = ((a : Nat) : Int) ∧ a ≤ n ∧ mI M p 2 = ((e + 1 : Nat) : Int) ∧ L ≤ e ∧ e + 1 ≤ a ∧ mI M (q + 1) 5 = 0 ∧ mI M (q + 1) 6 = 0 ∧ CY M q p O P V F ns sf ef L cnt ix nbr ∧ (mI M (q + 1) 3 = 0 → ∃ v H, mI M (p + 12) (cnt + 1) = ((v : Nat) : Int) ∧ mI M (p + 14) v = ((L : Nat) : Int) ∧ mI M (p + 15) v = ((e + 1 : Nat) : Int) ∧ Cod M O P V F ns L e H 1)))
/-- the tables of branches are written at v -/
theorem tx_br {x : Int} (h : TX M z q w T A B D N C n p O P K Ab Be Cm V F ns sf ef c cnt L) (cy : CY M q p O P V F ns sf ef L cnt ix nbr) (h0 : mI M (q + 1) 3 = 0) (hv : mI M (p + 12) (cnt + 1) = ((v : Nat) : Int)) (ok : mOk M') (f : FI (fun b => b = p + 13 ∨ b = p + 14 ∨ b = p + 15) M M') (e14 : ∀ i, mI M' (p + 14) i = if i = v then ((L : Nat) : Int) else mI M (p + 14) i) (e15 : ∀ i, mI M' (p + 15) i = if i = v then x else mI M (p + 15) i) : TX M' z q w T A B D N C n p O P K Ab Be Cm V F ns sf ef c cnt L ∧ CY M' q p O P V F ns sf ef L cnt ix nbr ∧ FI (txS q p O P) M M' ∧ (∀ b, b ≠ p + 13 → b ≠ p + 14 → b ≠ p + 15 → mI M' b = mI M b) := by
  have ap := h.1.apart
  have qp := h.1.2.2.2.2.2.1.2.1
  have nb : ∀ b, b ≠ p + 13 → b ≠ p + 14 → b ≠ p + 15 → mI M' b = mI M b := fun b b1 b2 b3 => f.2.2.2.2.2.2 b (fun y => by
    have y' : b = p + 13 ∨ b = p + 14 ∨ b = p + 15 := y
    omega)
  have fx : FI (txS q p O P) M M' := f.mono (fun b y => by
    have y' : b = p + 13 ∨ b = p + 14 ∨ b = p + 15 := y
    show (q ≤ b ∧ b ≤ q + 10) ∨ b = q + 21 ∨ b = q + 22 ∨ b = p ∨ (p + 3 ≤ b ∧ b ≤ p + 15) ∨ b = O ∨ b = P
    omega)
  have nO := nb O (by omega) (by omega) (by omega)
  have nP := nb P (by omega) (by omega) (by omega)
  have np := nb p (by omega) (by omega) (by omega)
  have nr : ∀ i, i ≤ 10 → mI M' (q + i) = mI M (q + i) := fun i hi => nb _ (by omega) (by omega) (by omega)
  have n6 : ∀ i, 7 ≤ i → i ≤ 12 → mI M' (p + i) = mI M (p + i) := fun i h7 h12 => nb _ (by omega) (by omega) (by omega)
  have fb : ∀ b, b < v → mI M' (p + 14) b = mI M (p + 14) b ∧ mI M' (p + 15) b = mI M (p + 15) b := fun b hb => ⟨by rw [e14, if_neg (by omega)], by rw [e15, if_neg (by omega)]⟩
  clear ap qp
  obtain ⟨hP, ⟨c1, c2, c3, c4⟩, x1, x2⟩ := h
  refine ⟨⟨hP.fi ok fx, ⟨by rw [np]; exact c1, by rw [np]; exact c2, ?_, fun j => by rw [nr 6 (by omega)]; exact c4 j⟩, by rw [np]; exact x1, fun _ => ?_⟩, cy.cg (fun y => by rw [nr 1 (by omega)]; exact y) (by rw [np]) n6 (fun v' hv' b hb => ?_) (fun i _ => ⟨by rw [nO], by rw [nP]⟩), fx, nb⟩
  · unfold TN at c3 ⊢
    rw [(hP.words fx).1, nr 1 (by omega), show q + 1 + 6 = q + 7 by omega, show q + 1 + 7 = q + 8 by omega, show q + 1 + 8 = q + 9 by omega, show q + 1 + 9 = q + 10 by omega, nr 7 (by omega), nr 8 (by omega), nr 9 (by omega), nr 10 (by omega)]
    exact c3
  · obtain ⟨u, eu, gu⟩ := x2 h0
    obtain ⟨-, -, u', v', b1, b2, b3, -⟩ := cy h0
    have uv : u ≤ v := by
      rw [eu] at b1
      rw [hv] at b2
      omega
    exact ⟨u, by rw [n6 12 (by omega) (by omega)]; exact eu, gu.cg (by rw [np]) n6 (fun b hb => fb b (by omega)) (fun i _ => ⟨by rw [nO], by rw [nP]⟩)⟩
  · rw [hv] at hv'
    exact fb b (by omega)
theorem s_TR_readChance (h : TX M z q w T A B D N C n p O P K Ab Be Cm V F ns sf ef c cnt L) (cy : CY M q p O P V F ns sf ef L cnt ix nbr) (n8 : mI M (q + 1) 3 = 0 → nbr < 8) (ha : mI M (q + 1) 2 = ((a : Nat) : Int)) (han : a ≤ n) (hs : mI M p 2 = ((L : Nat) : Int)) (hsa : L ≤ a) (hd : mI M (q + 1) 5 = 0) (h6 : mI M (q + 1) 6 = 0) (hix : ix ≤ 59) : Ci G y_TR_readChance (d + 5) [vr q, vi ix] M (chQ9 M z q w T A B D N C n p O P K Ab Be Cm V F ns sf ef c cnt L ix nbr) := by
  obtain ⟨⟨np0, np1, -, -⟩, ⟨nO0, nO1, -, -, nOp⟩, nP0, nP1, -, -, nPp⟩ := h.1.ne
  obtain ⟨q01, q10, q210, q211, -⟩ := q_ne q
  have hN : n ≤ 16384 := by have := h.1.1.2.2.2.1.2.2.1; have := h.1.1.2.2.2.1.1.2.2.2.2.2.2.1; omega
  obtain ⟨t0, t1, t2, t3, t4, t5⟩ := h.1.2.1
  refine k_TR_readChance h.1.1.1 (i32s (by omega) (by omega)) ?_
  rw [t1]
  refine ⟨t0, h.1.1.2.1.1, (s_RR_here h.1.1 ha han).mono (fun x4 M3 k => ?_)⟩
  obtain ⟨e3, -, x0, x1⟩ := k
  subst e3
  have i4 : i32 x4 := i32s (by omega) (by omega)
  rw [t1, t3, hs]
  refine ⟨i4, h.1.1.1, t0, h.1.1.2.2.2.2.1.1, h.1.1.2.1.1, (s_tx_rule (d0 := 0) (i32s (by omega) (by omega)) (i32s (by omega) (by omega)) h ha han hs (Nat.le_refl _) hsa hd (by omega) h.2.1.2.2.1.nk).mono (fun x10 M9 k => ?_)⟩
  obtain ⟨i10, o9, h9, x9, ⟨c9, -⟩, k9⟩ := k
  refine ⟨i10, o9, fun y => ?_, fun y => ?_⟩
  · obtain ⟨-, u⟩ := k9.resolve_right (fun u => by rw [y] at u; exact absurd u.1 (by decide))
    exact ⟨x9.1, Or.inl ⟨rfl, h9, u⟩⟩
  obtain ⟨-, e, H, a', u1, u2, u3, u4, u5, u6, u7, u8, u9, u10⟩ := k9.resolve_left (fun u => y u.1)
  clear k9
  rw [h9.1.2.1.2.2.2.1]
  refine ⟨h9.1.2.1.1, h9.1.1.2.2.2.2.1.1, (s_tx_add (i32s (by omega) (by omega)) (i32s (by omega) (by omega)) h9 u5 (by omega) (by omega)).mono (fun x17 M16 k => ?_)⟩
  obtain ⟨v1, v2, v3, v4, v5, v6, v7, v8⟩ := k
  have e1 := v8 (q + 1) np1.symm nO1.symm nP1.symm
  have f16 : txF M3 q p O P L M16 := x9.trans (v4.less (by omega))
  have cy16 := cy.tx f16.2
  have cd : Cod M16 O P V F ns L e H 1 := by
    refine ⟨fun pc h0 h2 => ?_, u2, u3, u4, by rw [v6, if_pos rfl], by omega⟩
    rw [v6, v7, if_neg (by omega), if_neg (by omega)]
    exact u1 pc h0 h2
  have a16 : mI M16 (q + 1) 2 = ((a' : Nat) : Int) := by rw [e1]; exact u6
  have d16 : mI M16 (q + 1) 5 = 0 := by rw [e1, u10]; exact hd
  have c16 : mI M16 (q + 1) 6 = 0 := by rw [e1, c9]; exact h6
  obtain ⟨w0, w1, w2, w3, w4, w5⟩ := v3.1.2.1
  obtain ⟨k6, ⟨-, -, -, -, -, -, -, -, -, p16, p17, p18, p19⟩, ⟨-, -, -, -, -, -, -, -, -, kp12, kp13, kp14, kp15⟩, ⟨-, -, -, -, -, -, -, -, -, np12, np13, np14, np15⟩⟩ := v3.tab
  clear u1 u2 u3 u5 u6 u10 c9 h9 x9 v4 v6 v7 v8
  rw [w1, w3, p16, p17, np12, np13]
  refine ⟨v1, v2, w0, v3.1.1.2.1.1, fun y0 => ?_, fun y0 => ?_⟩
  · obtain ⟨g1, g2, u, v, g3, g4, g5, g6, g7, -⟩ := cy16 y0
    have n8' : nbr < 8 := n8 (by
      have := f16.2.2.1
      exact Classical.byContradiction (fun t => this t y0))
    obtain ⟨u', g9, -, g10⟩ := g7.2.2.2.2.2.1
    have vb : v < 480 := by
      rw [g3] at g9
      omega
    have gv : mI M16 (p + 12) (Int.toNat ((ix : Int) + 1)) = ((v : Nat) : Int) := by
      rw [show Int.toNat ((ix : Int) + 1) = cnt + 1 by omega]
      exact g4
    rw [gv, Int.toNat_natCast]
    refine ⟨k6, kp12, by omega, kp13, by omega, fun M37 e37 => ?_⟩
    have f37 : FI (fun b => b = p + 13) M16 M37 := by rw [e37]; exact FI.ui rfl
    rw [f37.1, f37.2.1, f37.2.2.1, w3, p18, np14]
    refine ⟨k6, kp14, by omega, fun M42 e42 => ?_⟩
    have f42 : FI (fun b => b = p + 14) M37 M42 := by rw [e42]; exact FI.ui rfl
    have p42 : mI M42 p 2 = ((e + 1 : Nat) : Int) := by rw [f42.2.2.2.2.2.2 p (by omega), f37.2.2.2.2.2.2 p (by omega)]; exact v5
    rw [f42.1, f42.2.1, f42.2.2.1, f37.1, f37.2.1, f37.2.2.1, w3, p19, np15, p42]
    refine ⟨k6, kp15, by omega, fun M47 e47 => ?_⟩
    have f47 : FI (fun b => b = p + 15) M42 M47 := by rw [e47]; exact FI.ui rfl
    have o47 : mOk M47 := by rw [e47]; exact mOk_UI (by rw [e42]; exact mOk_UI (by rw [e37]; exact mOk_UI v2 i4) ⟨by omega, by omega⟩) ⟨by omega, by omega⟩
    have ff : FI (fun b => b = p + 13 ∨ b = p + 14 ∨ b = p + 15) M16 M47 := ((f37.mono (fun _ y => Or.inl y)).trans (f42.mono (fun _ y => Or.inr (Or.inl y)))).trans (f47.mono (fun _ y => Or.inr (Or.inr y)))
    have e14 : ∀ i, mI M47 (p + 14) i = if i = v then ((L : Nat) : Int) else mI M16 (p + 14) i := fun i => by
      rw [f47.2.2.2.2.2.2 _ (by omega), mI_ui _ i e42]
      by_cases yv : i = v
      · rw [if_pos ⟨rfl, yv⟩, if_pos yv]
      · rw [if_neg (fun t => yv t.2), if_neg yv, f37.2.2.2.2.2.2 _ (by omega)]
    have e15 : ∀ i, mI M47 (p + 15) i = if i = v then ((e + 1 : Nat) : Int) else mI M16 (p + 15) i := fun i => by
      rw [mI_ui _ i e47]
      by_cases yv : i = v
      · rw [if_pos ⟨rfl, yv⟩, if_pos yv]
      · rw [if_neg (fun t => yv t.2), if_neg yv, f42.2.2.2.2.2.2 _ (by omega), f37.2.2.2.2.2.2 _ (by omega)]
    have apO : (q + 1 ≠ p + 13 ∧ q + 1 ≠ p + 14 ∧ q + 1 ≠ p + 15) ∧ (O ≠ p + 13 ∧ O ≠ p + 14 ∧ O ≠ p + 15) ∧ (P ≠ p + 13 ∧ P ≠ p + 14 ∧ P ≠ p + 15) ∧ p + 12 ≠ q + 1 := by
      have ap := v3.1.apart
      have qp := v3.1.2.2.2.2.2.1.2.1
      clear v3 cy16 cy h cd g7 e14 e15
      omega
    obtain ⟨h47, cy47, fx47, nb⟩ := tx_br (x := ((e + 1 : Nat) : Int)) v3 cy16 y0 g4 o47 ff e14 e15
    clear f37 f42 f47 ff e37 e42 e47 p42 cy16
    have r47 := nb (q + 1) apO.1.1 apO.1.2.1 apO.1.2.2
    have nO47 := nb O apO.2.1.1 apO.2.1.2.1 apO.2.1.2.2
    have nP47 := nb P apO.2.2.1.1 apO.2.2.1.2.1 apO.2.2.1.2.2
    have p47 := nb p (by omega) (by omega) (by omega)
    have t12 := nb (p + 12) (by omega) (by omega) (by omega)
    rw [h47.1.2.1.2.1]
    refine ⟨h47.1.1.2.1.1, (s_tx_accept (x := 34) (i32s (by omega) (by omega)) (by omega) h47 (by rw [r47]; exact a16) u8).mono (fun x51 M50 k => ?_)⟩
    obtain ⟨i51, o50, hx51, h50, x50, k50, r50, b50⟩ := k
    refine ⟨i51, o50, hx51, ?_⟩
    rcases k50 with ⟨e51, -, a50, an50⟩ | ⟨e51, e2⟩
    · refine ⟨(f16.1.trans fx47).trans x50.1, Or.inr ⟨e51, h50, fun t => x50.2.2.1 (by rw [r47]; exact f16.2.2.1 t), a' + 1, e, a50, an50, by rw [b50 p np1, p47]; exact v5, by omega, by omega, by rw [r50 5 (by decide), r47]; exact d16, by rw [r50 6 (by decide), r47]; exact c16, cy47.tx x50.2, fun _ => ⟨v, H, by rw [b50 _ apO.2.2.2, t12]; exact g4, by rw [b50 _ apO.1.2.1.symm, e14, if_pos rfl], by rw [b50 _ apO.1.2.2.symm, e15, if_pos rfl], cd.cg (fun i _ => by rw [b50 O nO1, nO47]) (fun i _ => by rw [b50 P nP1, nP47])⟩⟩⟩
    · rw [e2]
      exact ⟨f16.1.trans fx47, Or.inl ⟨e51, h47, a', by rw [r47]; exact a16, u8⟩⟩
  · refine (s_tx_accept (x := 34) (i32s (by omega) (by omega)) (by omega) v3 a16 u8).mono (fun x51 M50 k => ?_)
    obtain ⟨i51, o50, hx51, h50, x50, k50, r50, b50⟩ := k
    refine ⟨i51, o50, hx51, ?_⟩
    rcases k50 with ⟨e51, -, a50, an50⟩ | ⟨e51, e2⟩
    · exact ⟨f16.1.trans x50.1, Or.inr ⟨e51, h50, fun t => x50.2.2.1 (f16.2.2.1 t), a' + 1, e, a50, an50, by rw [b50 p np1]; exact v5, by omega, by omega, by rw [r50 5 (by decide)]; exact d16, by rw [r50 6 (by decide)]; exact c16, cy16.tx x50.2, fun t => absurd t (x50.2.2.1 y0)⟩⟩
    · rw [e2]
      exact ⟨f16.1, Or.inl ⟨e51, v3, a', a16, u8⟩⟩
end TRN
