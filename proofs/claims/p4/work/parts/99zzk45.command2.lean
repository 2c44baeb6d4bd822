/-! The class's reader of texts: commands, the whole. -/
section TRP
variable {G : mG} {d z q w T A B D N C n p O P K Ab Be Cm V F c s s' L L' cnt Bn a d0 V1 F1 nw k e s9 S0 wd ix nbr u v i Ab0 Be0 Cm0 Ab1 Be1 Cm1 : Nat} {M0 M M' M1 M2 : mM} {ns ns' ns1 : Nat → Int} {sf ef sf' ef' : Nat → Nat} {H H1 : Nat → Nat} {S R : Nat → Prop}
/-- behind a branch: it is counted, if no fault is noted -/
theorem s_rc_cnt (f1 : FI (txS q p O P) M0 M) (h : TX M z q w T A B D N C n p O P K Ab Be Cm V F ns sf ef c cnt L) (cy : CY M q p O P V F ns sf ef L cnt ix nbr) (n8 : mI M (q + 1) 3 = 0 → nbr < 8) (a1 : mI M (q + 1) 2 = ((a : Nat) : Int)) (a2 : a ≤ n) (p1 : mI M p 2 = ((L' : Nat) : Int)) (hLL : L ≤ L') (d1 : mI M (q + 1) 5 = 0) (c1 : mI M (q + 1) 6 = 0) (hix : ix ≤ 59) (br : mI M (q + 1) 3 = 0 → ∃ v s s' : Nat, mI M (p + 12) (cnt + 1) = ((v : Nat) : Int) ∧ mI M (p + 14) v = ((s : Nat) : Int) ∧ PC M O P V F ns ef L' s 1 ∧ mI M (p + 15) v = ((s' : Nat) : Int) ∧ PC M O P V F ns ef L' s' 0) : ((mI M (q + 1) 3 = 0) → (mK M p = 6 ∧ mK M (p + 12) = 30 ∧ ((0 : Int) ≤ (ix : Int) + 1 ∧ (ix : Int) + 1 < (mN M (p + 12) : Int)) ∧ ((0 : Int) ≤ (ix : Int) + 1 ∧ (ix : Int) + 1 < (mN M (p + 12) : Int)) ∧ i32 ((mI M (p + 12) (Int.toNat ((ix : Int) + 1))) + 1))) ∧ ∀ M120 : mM, M120 = (if (mI M (q + 1) 3 = 0) then (mUI M (p + 12) (Int.toNat ((ix : Int) + 1)) ((mI M (p + 12) (Int.toNat ((ix : Int) + 1))) + 1)) else M) → ∃ nbr', cmI M0 z q w T A B D N C n p O P K Ab Be Cm V F ns sf ef c cnt L' ix nbr' a M120 ∧ (mI M120 (q + 1) 3 = 0 → nbr' = nbr + 1) := by
  have ap := h.1.apart
  have qp := h.1.2.2.2.2.2.1.2.1
  have q12 : q + 1 ≠ p + 12 := by omega
  have p12 : p ≠ p + 12 := by omega
  clear ap qp
  obtain ⟨k6, -, ⟨-, -, -, -, -, -, -, -, -, kp12, -⟩, ⟨-, -, -, -, -, -, -, -, -, np12, -⟩⟩ := h.tab
  have e12 : Int.toNat ((ix : Int) + 1) = ix + 1 := by omega
  rw [np12, e12]
  refine ⟨fun y => ⟨k6, kp12, by omega, by omega, ?_⟩, fun M120 e120 => ?_⟩
  · obtain ⟨g1, g2, u, v, g3, g4, g5, g6, g7, -⟩ := cy y
    obtain ⟨u', g10, -, g11⟩ := g7.2.2.2.2.2.1
    have vb : v ≤ 480 := by
      rw [g3] at g10
      omega
    rw [g1, g4]
    exact ⟨by omega, by omega⟩
  · by_cases y : mI M (q + 1) 3 = 0
    · rw [if_pos y] at e120
      obtain ⟨v, s, s', b1, b2, b3, b4, b5⟩ := br y
      have g1 := (cy y).1
      rw [g1, b1] at e120
      obtain ⟨h2, cy2, fx, nb⟩ := tx_nb h cy y (n8 y) b1 b2 b3 b4 b5 hLL e120
      have nr := nb (q + 1) q12
      exact ⟨nbr + 1, ⟨f1.trans fx, h2, cy2, by rw [nr]; exact a1, a2, by rw [nb p p12]; exact p1, by rw [nr]; exact d1, by rw [nr]; exact c1, hix⟩, fun _ => rfl⟩
    · rw [if_neg y] at e120
      subst e120
      exact ⟨nbr, ⟨f1, h.any (fun u => absurd u y), fun u => absurd u y, a1, a2, p1, d1, c1, hix⟩, fun u => absurd u y⟩
theorem s_rc201 (h : cmI M0 z q w T A B D N C n p O P K Ab Be Cm V F ns sf ef c cnt L ix nbr a M) (hLa : L ≤ a) (hi : i ≤ n) (n8 : mI M (q + 1) 3 = 0 → nbr ≤ i ∧ i < 8) (nx : ∀ (M1 : mM) (l3 : Int) (L' nbr' a' : Nat), i32 l3 → cmI M0 z q w T A B D N C n p O P K Ab Be Cm V F ns sf ef c cnt L' ix nbr' a' M1 → (l3 ≠ 0 → L' ≤ a') → L' ≤ a' + 1 → (mI M1 (q + 1) 3 = 0 → nbr' ≤ i + 1) → h_TR_readCommand_160 G (d + 6) q ix l3 ((i : Int) + 1) M1 (cmQ9 M0 z q w T A B D N C n p O P K Ab Be Cm V F ns sf ef c)) : h_TR_readCommand_201 G (d + 6) q ix i M (cmQ9 M0 z q w T A B D N C n p O P K Ab Be Cm V F ns sf ef c) := by
  obtain ⟨f1, h1, cy, a1, a2, p1, d1, c1, hix⟩ := h
  have hN : n ≤ 16384 := by have := h1.1.1.2.2.2.1.2.2.1; have := h1.1.1.2.2.2.1.1.2.2.2.2.2.2.1; omega
  obtain ⟨⟨np0, np1, -, -⟩, ⟨nO0, nO1, -, -, nOp⟩, nP0, nP1, -, -, nPp⟩ := h1.1.ne
  refine k_TR_readCommand_201 h1.1.1.1 (i32s (by omega) (by omega)) (i32s (by omega) (by omega)) ⟨h1.1.2.1.1, (s_TR_readChance h1 cy (fun y => by have := n8 y; omega) a1 a2 p1 hLa d1 c1 hix).mono (fun x99 M98 k => ?_)⟩
  obtain ⟨f98, k98⟩ := k
  have i99 : i32 x99 := m_b32 (k98.imp (fun u => u.1) (fun u => u.1))
  have o98 : mOk M98 := by
    rcases k98 with ⟨-, u, -⟩ | ⟨-, u, -⟩
    · exact u.1.1.1
    · exact u.1.1.1
  refine ⟨i99, o98, fun y => ?_, fun y => ?_⟩
  · obtain ⟨-, u⟩ := k98.resolve_right (fun u => by rw [y] at u; exact absurd u.1 (by decide))
    exact ⟨f1.trans f98, Or.inl ⟨rfl, L, cnt, u⟩⟩
  obtain ⟨-, h98, z98, a', e, a98, an98, p98, Le, ea, d98, c98, cy98, br98⟩ := k98.resolve_left (fun u => y u.1)
  clear k98 cy
  have I98 : rsI M98 z q w T A B D N C n p O P K Ab Be Cm V F ns sf ef c cnt L (e + 1) a' (e + 1) M98 := ⟨h98, txF.refl, a98, an98, p98, Nat.le_refl _, ea, d98, c98, fun _ => ⟨fun _ => 0, fun pc h0 h2 => absurd h0 (by omega), rfl, rfl, Nat.le_refl _⟩, by omega⟩
  refine ⟨h98.1.2.1.1, (s_TR_readSets I98).mono (fun x105 M104 k => ?_)⟩
  obtain ⟨f104, k104⟩ := k
  have i105 : i32 x105 := m_b32 (k104.imp (fun u => u.1) (fun u => u.1))
  have o104 : mOk M104 := by
    rcases k104 with ⟨-, u, -⟩ | ⟨-, u, -⟩
    · exact u.1.1.1
    · exact u.1.1.1
  refine ⟨i105, o104, fun y => ?_, fun y => ?_⟩
  · obtain ⟨-, u⟩ := k104.resolve_right (fun u => by rw [y] at u; exact absurd u.1 (by decide))
    exact ⟨(f1.trans f98).trans f104.1, Or.inl ⟨rfl, L, cnt, u⟩⟩
  obtain ⟨-, h104, a2', s9, a104, an104, p104, es9, sa, d104, c104, cd104⟩ := k104.resolve_left (fun u => y u.1)
  clear k104 I98
  have cy104 := cy98.tx (f104.less (show L ≤ e + 1 by omega)).2
  have z104 : mI M104 (q + 1) 3 = 0 → mI M98 (q + 1) 3 = 0 := fun t => Classical.byContradiction (fun t2 => f104.2.2.1 t2 t)
  have z0 : mI M98 (q + 1) 3 = 0 → mI M (q + 1) 3 = 0 := fun t => Classical.byContradiction (fun t2 => z98 t2 t)
  have br : mI M104 (q + 1) 3 = 0 → ∃ v s s' : Nat, mI M104 (p + 12) (cnt + 1) = ((v : Nat) : Int) ∧ mI M104 (p + 14) v = ((s : Nat) : Int) ∧ PC M104 O P V F ns ef (s9 + 1) s 1 ∧ mI M104 (p + 15) v = ((s' : Nat) : Int) ∧ PC M104 O P V F ns ef (s9 + 1) s' 0 := fun t => by
    obtain ⟨v, H, b1, b2, b3, b4⟩ := br98 (z104 t)
    obtain ⟨H2, b5⟩ := cd104 t
    obtain ⟨-, -, u', v', -, -, -, -, g7, -⟩ := cy104 t
    have t12 := f104.2.2.2.2.2.1 12 (by omega) (by omega)
    have t14 := f104.2.2.2.2.2.1 14 (by omega) (by omega)
    have t15 := f104.2.2.2.2.2.1 15 (by omega) (by omega)
    have fl : ∀ y, y < F → ns y = 7 → ef y < L := fun y hy h7 => ((g7.1 y hy).2 h7).2.2.1
    refine ⟨v, L, e + 1, by rw [t12]; exact b1, by rw [t14]; exact b2, ⟨e, H, F, b4.cg (fun i hi => (f104.2.2.2.2.2.2 i (by omega)).1) (fun i hi => (f104.2.2.2.2.2.2 i (by omega)).2), by omega, Nat.le_refl _, fl⟩, by rw [t15]; exact b3, ⟨s9, H2, F, b5, Nat.lt_succ_self _, Nat.le_refl _, fun y hy h7 => ?_⟩⟩
    have := fl y hy h7
    omega
  have n8' : mI M104 (q + 1) 3 = 0 → nbr < 8 := fun t => by have := n8 (z0 (z104 t)); omega
  obtain ⟨t1, t2⟩ := s_rc_cnt (M0 := M0) ((f1.trans f98).trans f104.1) h104 cy104 n8' a104 an104 p104 (by omega) d104 c104 hix br
  have tt := h104.tab.2.1.2.2.2.2.2.2.2.2.2.1
  rw [h104.1.2.1.2.1, h104.1.2.1.2.2.2.1, tt]
  refine ⟨h104.1.2.1.1, h104.1.1.2.1.1, t1, fun M120 e120 => ?_⟩
  obtain ⟨nbr', I120, hn'⟩ := t2 M120 e120
  have h120 := I120.2.1
  have a120 := I120.2.2.2.1
  have nn : mI M120 (q + 1) 3 = 0 → nbr' ≤ i + 1 := fun t => by
    have t104 : mI M104 (q + 1) 3 = 0 := by
      by_cases u : mI M104 (q + 1) 3 = 0
      · exact u
      · rw [if_neg u] at e120
        rw [e120] at t
        exact t
    have := n8 (z0 (z104 t104))
    have := hn' t
    omega
  clear t1 t2 br br98 cy98 cy104 cd104 e120 tt n8 n8' hn'
  rw [h120.1.2.1.2.1]
  refine ⟨h120.1.1.1, h120.1.1.2.1.1, (s_tx_accept (x := 25) (i32s (by omega) (by omega)) (by omega) h120 a120 an104).mono (fun x126 M125 k => ?_)⟩
  obtain ⟨i126, o125, hx126, h125, x125, k125, r125, b125⟩ := k
  obtain ⟨j1, j2, j3, j4, j5, j6, j7, j8, j9⟩ := I120
  have Y : mI M125 (q + 1) 3 = 0 → nbr' ≤ i + 1 := fun t => nn (Classical.byContradiction (fun t2 => x125.2.2.1 t2 t))
  refine ⟨i126, o125, ?_⟩
  rcases k125 with ⟨e1, -, a125, an125⟩ | ⟨e1, e2⟩
  · exact nx M125 x126 (s9 + 1) nbr' (a2' + 1) i126 ⟨j1.trans x125.1, h125, j3.tx x125.2, a125, an125, by rw [b125 p np1]; exact j6, by rw [r125 5 (by decide)]; exact j7, by rw [r125 6 (by decide)]; exact j8, j9⟩ (fun _ => by omega) (by omega) Y
  · exact nx M125 x126 (s9 + 1) nbr' a2' i126 ⟨j1.trans x125.1, h125, j3.tx x125.2, by rw [e2]; exact j4, j5, by rw [b125 p np1]; exact j6, by rw [r125 5 (by decide)]; exact j7, by rw [r125 6 (by decide)]; exact j8, j9⟩ (fun t => absurd e1 t) (by omega) Y
theorem s_rc160 : ∀ (t i : Nat) (M : mM) (l3 : Int) (L nbr a : Nat), n + 1 ≤ i + t → i ≤ n + 1 → i32 l3 → cmI M0 z q w T A B D N C n p O P K Ab Be Cm V F ns sf ef c cnt L ix nbr a M → (l3 ≠ 0 → L ≤ a) → L ≤ a + 1 → (mI M (q + 1) 3 = 0 → nbr ≤ i) → h_TR_readCommand_160 G (d + 6) q ix l3 i M (cmQ9 M0 z q w T A B D N C n p O P K Ab Be Cm V F ns sf ef c) := by
  intro t
  induction t with
  | zero =>
    intro i M l3 L nbr a ht hi i3 h hLa hLa1 hn
    have h1 := h.2.1
    have hix := h.2.2.2.2.2.2.2.2
    have hN : n ≤ 16384 := by have := h1.1.1.2.2.2.1.2.2.1; have := h1.1.1.2.2.2.1.1.2.2.2.2.2.2.1; omega
    obtain ⟨t0, t1, t2, t3, t4, t5⟩ := h1.1.2.1
    have r0 := h1.1.1.2.2.1.1
    have w1 := h1.1.1.2.2.2.1.1.1
    have w2 := h1.1.1.2.2.2.1.2.1
    refine k_TR_readCommand_160 h1.1.1.1 (i32s (by omega) (by omega)) i3 (i32s (by omega) (by omega)) ?_
    rw [t1, r0, w2, t3]
    exact ⟨t0, h1.1.1.2.1.1, w1, fun _ => ⟨h1.1.1.2.2.2.2.1.1, ⟨by omega, by omega⟩, fun M78 e78 => s_rc_end h hLa1 e78⟩, fun y => absurd (Or.inl (by omega)) y⟩
  | succ t ih =>
    intro i M l3 L nbr a ht hi i3 h hLa hLa1 hn
    have h1 := h.2.1
    have hix := h.2.2.2.2.2.2.2.2
    have hN : n ≤ 16384 := by have := h1.1.1.2.2.2.1.2.2.1; have := h1.1.1.2.2.2.1.1.2.2.2.2.2.2.1; omega
    obtain ⟨t0, t1, t2, t3, t4, t5⟩ := h1.1.2.1
    have r0 := h1.1.1.2.2.1.1
    have w1 := h1.1.1.2.2.2.1.1.1
    have w2 := h1.1.1.2.2.2.1.2.1
    have nxt : ∀ (M1 : mM) (l3 : Int) (L' nbr' a' : Nat), i32 l3 → cmI M0 z q w T A B D N C n p O P K Ab Be Cm V F ns sf ef c cnt L' ix nbr' a' M1 → (l3 ≠ 0 → L' ≤ a') → L' ≤ a' + 1 → (mI M1 (q + 1) 3 = 0 → nbr' ≤ i + 1) → i < n + 1 → h_TR_readCommand_160 G (d + 6) q ix l3 ((i : Int) + 1) M1 (cmQ9 M0 z q w T A B D N C n p O P K Ab Be Cm V F ns sf ef c) := fun M1 l3 L' nbr' a' j1 j2 j3 j4 j5 j6 => by
      rw [show ((i : Int) + 1) = ((i + 1 : Nat) : Int) by omega]
      exact ih (i + 1) M1 l3 L' nbr' a' (by omega) (by omega) j1 j2 j3 j4 j5
    refine k_TR_readCommand_160 h1.1.1.1 (i32s (by omega) (by omega)) i3 (i32s (by omega) (by omega)) ?_
    rw [t1, r0, w2, t3]
    refine ⟨t0, h1.1.1.2.1.1, w1, fun _ => ⟨h1.1.1.2.2.2.2.1.1, ⟨by omega, by omega⟩, fun M78 e78 => s_rc_end h hLa1 e78⟩, fun y => ?_⟩
    have i1n : i < n + 1 := by
      by_cases u : ((n : Int) + 1 ≤ i)
      · exact absurd (Or.inl u) y
      · omega
    have l30 : l3 ≠ 0 := fun u => y (Or.inr u)
    refine ⟨fun y8 => s_rc201 h (hLa l30) (by omega) (fun u => ⟨hn u, by omega⟩) (fun M1 l3 L' nbr' a' j1 j2 j3 j4 j5 => nxt M1 l3 L' nbr' a' j1 j2 j3 j4 j5 i1n), fun y8 => (s_RR_here h1.1.1 h.2.2.2.1 h.2.2.2.2.1).mono (fun x89 M88 k => ?_)⟩
    obtain ⟨e88, -, x0, x1⟩ := k
    subst e88
    refine ⟨i32s (by omega) (by omega), h1.1.1.1, h1.1.1.2.1.1, (s_tx_note (x := 5) (i32s (by omega) (by omega)) (by omega) (i32s (by omega) (by omega)) h1).mono (fun M92 k => ?_)⟩
    obtain ⟨o92, h92, x92, u3, u4, u5⟩ := k
    obtain ⟨⟨np0, np1, -, -⟩, -, -⟩ := h1.1.ne
    obtain ⟨j1, j2, j3, j4, j5, j6, j7, j8, j9⟩ := h
    refine ⟨o92, s_rc201 (nbr := nbr) ⟨j1.trans x92.1, h92, j3.tx x92.2, by rw [u4 2 (by decide) (by decide)]; exact j4, j5, by rw [u5 p np1]; exact j6, by rw [u4 5 (by decide) (by decide)]; exact j7, by rw [u4 6 (by decide) (by decide)]; exact j8, j9⟩ (hLa l30) (by omega) (fun u => absurd u u3) (fun M1 l3 L' nbr' a' j1 j2 j3 j4 j5 => nxt M1 l3 L' nbr' a' j1 j2 j3 j4 j5 i1n)⟩
end TRP
