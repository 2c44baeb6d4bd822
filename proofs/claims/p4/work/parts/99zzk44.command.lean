/-! The class's reader of texts: a command's branches. -/
section TRO
variable {G : mG} {d z q w T A B D N C n p O P K Ab Be Cm V F c s s' L L' cnt Bn a d0 V1 F1 nw k e s9 S0 wd ix nbr u v Ab0 Be0 Cm0 Ab1 Be1 Cm1 : Nat} {M0 M M' M1 M2 : mM} {ns ns' ns1 : Nat → Int} {sf ef sf' ef' : Nat → Nat} {H H1 : Nat → Nat} {S R : Nat → Prop}
theorem PG.up (h : PG M p O P V F ns sf ef L cnt Bn) (h11 : mI M' p 11 = mI M p 11) (t7 : mI M' (p + 7) = mI M (p + 7)) (t8 : mI M' (p + 8) = mI M (p + 8)) (t11 : ∀ j, j < cnt → mI M' (p + 11) j = mI M (p + 11) j) (t12 : ∀ j, j ≤ cnt → mI M' (p + 12) j = mI M (p + 12) j) (fb : ∀ b, b < Bn → mI M' (p + 14) b = mI M (p + 14) b ∧ mI M' (p + 15) b = mI M (p + 15) b) (f7 : ∀ i, i < L → mI M' O i = mI M O i ∧ mI M' P i = mI M P i) : PG M' p O P V F ns sf ef L cnt Bn := by
  obtain ⟨g1, g2, g3, g4, g5, g6, g7⟩ := h
  have cg : ∀ {s h : Nat}, PC M O P V F ns ef L s h → PC M' O P V F ns ef L s h := fun hc => hc.cg (fun i hi => (f7 i hi).1) (fun i hi => (f7 i hi).2)
  refine ⟨g1.cg (fun i hi => (f7 i hi).1) (fun i hi => (f7 i hi).2) (fun i _ => by rw [t7]) (fun i _ => by rw [t8]), ?_, fun j hj => ?_, by rw [t12 0 (by omega)]; exact g4, fun j hj => by rw [t12 j (by omega), t12 (j + 1) (by omega)]; exact g5 j hj, by rw [t12 cnt (Nat.le_refl _)]; exact g6, fun b hb => ?_⟩
  · rw [h11]
    exact g2.imp (fun y => y) (fun ⟨s, y1, y2⟩ => ⟨s, y1, cg y2⟩)
  · obtain ⟨s, y1, y2⟩ := g3 j hj
    exact ⟨s, by rw [t11 j hj]; exact y1, cg y2⟩
  · obtain ⟨s1, s2, y1, y2, y3, y4⟩ := g7 b hb
    exact ⟨s1, s2, by rw [(fb b hb).1]; exact y1, cg y2, by rw [(fb b hb).2]; exact y3, cg y4⟩
/-- a table of commands is written, where no command is yet -/
theorem TX.up {b j : Nat} {x : Int} (h : TX M z q w T A B D N C n p O P K Ab Be Cm V F ns sf ef c cnt L) (hx : i32 x) (e1 : M' = mUI M (p + b) j x) (hb : 9 ≤ b ∧ b ≤ 12) (h11 : b = 11 → mI M (q + 1) 3 = 0 → cnt ≤ j) (h12 : b = 12 → mI M (q + 1) 3 = 0 → cnt < j) : TX M' z q w T A B D N C n p O P K Ab Be Cm V F ns sf ef c cnt L ∧ FI (txS q p O P) M M' ∧ (∀ y, y ≠ p + b → mI M' y = mI M y) ∧ (∀ i, mI M' (p + b) i = if i = j then x else mI M (p + b) i) := by
  have ap := h.1.apart
  have qp := h.1.2.2.2.2.2.1.2.1
  have ok : mOk M' := by rw [e1]; exact mOk_UI h.1.1.1 hx
  have f : FI (fun y => y = p + b) M M' := by rw [e1]; exact FI.ui rfl
  have nb : ∀ y, y ≠ p + b → mI M' y = mI M y := fun y hy => f.2.2.2.2.2.2 y hy
  have ib : ∀ i, mI M' (p + b) i = if i = j then x else mI M (p + b) i := fun i => by
    rw [mI_ui _ i e1]
    by_cases y : i = j
    · rw [if_pos ⟨rfl, y⟩, if_pos y]
    · rw [if_neg (fun t => y t.2), if_neg y]
  have fx : FI (txS q p O P) M M' := f.mono (fun y hy => by
    have hy' : y = p + b := hy
    show (q ≤ y ∧ y ≤ q + 10) ∨ y = q + 21 ∨ y = q + 22 ∨ y = p ∨ (p + 3 ≤ y ∧ y ≤ p + 15) ∨ y = O ∨ y = P
    omega)
  have nO := nb O (by omega)
  have nP := nb P (by omega)
  have np := nb p (by omega)
  have nr : ∀ i, i ≤ 10 → mI M' (q + i) = mI M (q + i) := fun i hi => nb _ (by omega)
  obtain ⟨hP, ⟨c1, c2, c3, c4⟩, x1, x2⟩ := h
  refine ⟨⟨hP.fi ok fx, ⟨by rw [np]; exact c1, by rw [np]; exact c2, ?_, fun j => by rw [nr 6 (by omega)]; exact c4 j⟩, by rw [np]; exact x1, fun y0 => ?_⟩, fx, nb, ib⟩
  · unfold TN at c3 ⊢
    rw [(hP.words fx).1, nr 1 (by omega), show q + 1 + 6 = q + 7 by omega, show q + 1 + 7 = q + 8 by omega, show q + 1 + 8 = q + 9 by omega, show q + 1 + 9 = q + 10 by omega, nr 7 (by omega), nr 8 (by omega), nr 9 (by omega), nr 10 (by omega)]
    exact c3
  · rw [nr 1 (by omega)] at y0
    obtain ⟨u, eu, gu⟩ := x2 y0
    have t11 : ∀ i, i < cnt → mI M' (p + 11) i = mI M (p + 11) i := fun i hi => by
      by_cases yb : b = 11
      · have := h11 yb y0
        rw [← yb, ib, if_neg (by omega)]
      · rw [nb _ (by omega)]
    have t12 : ∀ i, i ≤ cnt → mI M' (p + 12) i = mI M (p + 12) i := fun i hi => by
      by_cases yb : b = 12
      · have := h12 yb y0
        rw [← yb, ib, if_neg (by omega)]
      · rw [nb _ (by omega)]
    exact ⟨u, by rw [t12 cnt (Nat.le_refl _)]; exact eu, gu.up (by rw [np]) (nb _ (by omega)) (nb _ (by omega)) t11 t12 (fun b' _ => ⟨by rw [nb _ (by omega)], by rw [nb _ (by omega)]⟩) (fun i _ => ⟨by rw [nO], by rw [nP]⟩)⟩
/-- a branch is counted -/
theorem tx_nb (h : TX M z q w T A B D N C n p O P K Ab Be Cm V F ns sf ef c cnt L) (cy : CY M q p O P V F ns sf ef L cnt ix nbr) (h0 : mI M (q + 1) 3 = 0) (n8 : nbr < 8) (hv : mI M (p + 12) (cnt + 1) = ((v : Nat) : Int)) (b14 : mI M (p + 14) v = ((s : Nat) : Int)) (p14 : PC M O P V F ns ef L' s 1) (b15 : mI M (p + 15) v = ((s' : Nat) : Int)) (p15 : PC M O P V F ns ef L' s' 0) (hLL : L ≤ L') (e1 : M' = mUI M (p + 12) (cnt + 1) ((v : Int) + 1)) : TX M' z q w T A B D N C n p O P K Ab Be Cm V F ns sf ef c cnt L' ∧ CY M' q p O P V F ns sf ef L' cnt ix (nbr + 1) ∧ FI (txS q p O P) M M' ∧ (∀ y, y ≠ p + 12 → mI M' y = mI M y) := by
  obtain ⟨g1, g2, u, v', g3, g4, g5, g6, g7, sg, g8, g9⟩ := cy h0
  have vv : v' = v := by rw [hv] at g4; omega
  subst vv
  obtain ⟨u', g10, -, g11⟩ := g7.2.2.2.2.2.1
  have vb : v' < 480 := by
    rw [g3] at g10
    omega
  obtain ⟨h', fx, nb, ib⟩ := h.up (b := 12) ⟨by omega, by omega⟩ e1 ⟨by omega, by omega⟩ (fun y => absurd y (by omega)) (fun _ _ => by omega)
  have ap := h.1.apart
  have qp := h.1.2.2.2.2.2.1.2.1
  have nO := nb O (by omega)
  have nP := nb P (by omega)
  have nr := nb (q + 1) (by omega)
  have np := nb p (by omega)
  refine ⟨h'.any (fun _ => hLL), fun _ => ?_, fx, nb⟩
  have cg : ∀ {s h : Nat}, PC M O P V F ns ef L' s h → PC M' O P V F ns ef L' s h := fun hc => hc.cg (fun i _ => by rw [nO]) (fun i _ => by rw [nP])
  have gg := (g7.longer hLL).up (M' := M') (by rw [np]) (nb _ (by omega)) (nb _ (by omega)) (fun i _ => by rw [nb _ (by omega)]) (fun i hi => by rw [ib, if_neg (by omega)]) (fun b' _ => ⟨by rw [nb _ (by omega)], by rw [nb _ (by omega)]⟩) (fun i _ => ⟨by rw [nO], by rw [nP]⟩)
  refine ⟨g1, g2, u, v' + 1, by rw [ib, if_neg (by omega)]; exact g3, by rw [ib, if_pos rfl]; omega, by omega, by omega, ?_, sg, by rw [nb _ (by omega)]; exact g8, cg (g9.wide (Nat.le_refl _) (Nat.le_refl _) hLL (fun _ _ => ⟨rfl, rfl⟩))⟩
  obtain ⟨k1, k2, k3, k4, k5, ⟨uu, k6, k7, k8⟩, k9⟩ := gg
  refine ⟨k1, k2, k3, k4, k5, ⟨uu, k6, by omega, k8⟩, fun b hb => ?_⟩
  by_cases y : b = v'
  · subst y
    exact ⟨s, s', by rw [nb _ (by omega)]; exact b14, cg p14, by rw [nb _ (by omega)]; exact b15, cg p15⟩
  · exact k9 b (by omega)
/-- a command that has been read -/
def cmQ9 (M0 : mM) (z q w T A B D N C n p O P K Ab Be Cm V F : Nat) (ns : Nat → Int) (sf ef : Nat → Nat) (c : Nat) (x : Int) (M' : mM) : Prop := FI (txS q p O P) M0 M' ∧ ((x = 0 ∧ ∃ L' cnt', nstQ z q w T A B D N C n p O P K Ab Be Cm V F ns sf ef c cnt' L' M') ∨ (x = 1 ∧ ∃ L' cnt' a' : Nat, TX M' z q w T A B D N C n p O P K Ab Be Cm V F ns sf ef c cnt' L' ∧ mI M' p 2 = ((L' : Nat) : Int) ∧ mI M' (q + 1) 2 = ((a' : Nat) : Int) ∧ a' ≤ n ∧ L' ≤ a' ∧ mI M' (q + 1) 5 = 0))
/-- between two branches -/
def cmI (M0 : mM) (z q w T A B D N C n p O P K Ab Be Cm V F : Nat) (ns : Nat → Int) (sf ef : Nat → Nat) (c cnt L ix nbr a : Nat) (M : mM) : Prop := FI (txS q p O P) M0 M ∧ TX M z q w T A B D N C n p O P K Ab Be Cm V F ns sf ef c cnt L ∧ CY M q p O P V F ns sf ef L cnt ix nbr ∧ mI M (q + 1) 2 = ((a : Nat) : Int) ∧ a ≤ n ∧ mI M p 2 = ((L : Nat) : Int) ∧ mI M (q + 1) 5 = 0 ∧ mI M (q + 1) 6 = 0 ∧ ix ≤ 59
/-- the end of a command -/
theorem s_rc_end (h : cmI M0 z q w T A B D N C n p O P K Ab Be Cm V F ns sf ef c cnt L ix nbr a M) (hLa : L ≤ a + 1) (e78 : M' = mUI M p 12 ((ix : Int) + 1)) : mK M' (mR M' q 0) = 4 ∧ Ci G y_RR_accept d [vr (mR M' q 0), vi 35] M' (fun x82 M81 => i32 x82 ∧ mOk M81 ∧ ((x82 = 0 ∨ x82 = 1) ∧ cmQ9 M0 z q w T A B D N C n p O P K Ab Be Cm V F ns sf ef c x82 M81)) := by
  obtain ⟨f1, h1, cy, a1, a2, p1, d1, c1, hix⟩ := h
  have ap := h1.1.apart
  have qp := h1.1.2.2.2.2.2.1.2.1
  have f : FI (fun y => y = p) M M' := by rw [e78]; exact FI.ui rfl
  have ok : mOk M' := by rw [e78]; exact mOk_UI h1.1.1.1 ⟨by omega, by omega⟩
  have nb : ∀ y, y ≠ p → mI M' y = mI M y := fun y hy => f.2.2.2.2.2.2 y hy
  have ip : ∀ i, mI M' p i = if i = 12 then (ix : Int) + 1 else mI M p i := fun i => by
    rw [mI_ui _ i e78]
    by_cases y : i = 12
    · rw [if_pos ⟨rfl, y⟩, if_pos y]
    · rw [if_neg (fun t => y t.2), if_neg y]
  have fx : FI (txS q p O P) M M' := f.mono (fun y hy => Or.inr (Or.inr (Or.inr (Or.inl hy))))
  have nO := nb O (by omega)
  have nP := nb P (by omega)
  have nr : ∀ i, i ≤ 10 → mI M' (q + i) = mI M (q + i) := fun i hi => nb _ (by omega)
  have h' : TX M' z q w T A B D N C n p O P K Ab Be Cm V F ns sf ef c (ix + 1) L := by
    obtain ⟨hP, ⟨k1, k2, k3, k4⟩, x1, x2⟩ := h1
    refine ⟨hP.fi ok fx, ⟨by rw [ip, if_neg (by decide)]; exact k1, by rw [ip, if_neg (by decide)]; exact k2, ?_, fun j => by rw [nr 6 (by omega)]; exact k4 j⟩, ⟨by rw [ip, if_pos rfl]; omega, by omega⟩, fun y0 => ?_⟩
    · unfold TN at k3 ⊢
      rw [(hP.words fx).1, nr 1 (by omega), show q + 1 + 6 = q + 7 by omega, show q + 1 + 7 = q + 8 by omega, show q + 1 + 8 = q + 9 by omega, show q + 1 + 9 = q + 10 by omega, nr 7 (by omega), nr 8 (by omega), nr 9 (by omega), nr 10 (by omega)]
      exact k3
    · rw [nr 1 (by omega)] at y0
      obtain ⟨g1, g2, u, v, g3, g4, g5, g6, g7, sg, g8, g9⟩ := cy y0
      subst g1
      have cg : ∀ {s h : Nat}, PC M O P V F ns ef L s h → PC M' O P V F ns ef L s h := fun hc => hc.cg (fun i _ => by rw [nO]) (fun i _ => by rw [nP])
      obtain ⟨m1, m2, m3, m4, m5, ⟨uu, m6, m7, m8⟩, m9⟩ := g7.up (M' := M') (by rw [ip, if_neg (by decide)]) (nb _ (by omega)) (nb _ (by omega)) (fun i _ => by rw [nb _ (by omega)]) (fun i hi => by rw [nb _ (by omega)]) (fun b' _ => ⟨by rw [nb _ (by omega)], by rw [nb _ (by omega)]⟩) (fun i _ => ⟨by rw [nO], by rw [nP]⟩)
      have t12 : mI M' (p + 12) = mI M (p + 12) := nb _ (by omega)
      have uu' : uu = u := by
        rw [t12, g3] at m6
        omega
      refine ⟨v, by rw [t12]; exact g4, m1, m2, fun j hj => ?_, m4, fun j hj => ?_, ⟨v, by rw [t12]; exact g4, Nat.le_refl _, by omega⟩, m9⟩
      · by_cases y : j = ix
        · subst y
          exact ⟨sg, by rw [nb _ (by omega)]; exact g8, cg g9⟩
        · exact m3 j (by omega)
      · by_cases y : j = ix
        · subst y
          exact ⟨u, v, by rw [t12]; exact g3, by rw [t12]; exact g4, by omega, by omega⟩
        · exact m5 j (by omega)
  have n1 := nr 1 (by omega)
  clear cy
  rw [h'.1.2.1.2.1]
  refine ⟨h'.1.1.2.1.1, (s_tx_accept (x := 35) (i32s (by omega) (by omega)) (by omega) h' (by rw [n1]; exact a1) a2).mono (fun x82 M81 k => ?_)⟩
  obtain ⟨i1, o1, hx, h2, x2, k1, r1, b1⟩ := k
  refine ⟨i1, o1, hx, ?_⟩
  rcases k1 with ⟨e1, -, a3, an3⟩ | ⟨e1, e2⟩
  · refine ⟨(f1.trans fx).trans x2.1, Or.inr ⟨e1, L, ix + 1, a + 1, h2, by rw [b1 p (by omega), ip, if_neg (by decide)]; exact p1, a3, an3, hLa, by rw [r1 5 (by decide), n1]; exact d1⟩⟩
  · rw [e2]
    exact ⟨f1.trans fx, Or.inl ⟨e1, L, ix + 1, h', a, by rw [n1]; exact a1, a2⟩⟩
end TRO
