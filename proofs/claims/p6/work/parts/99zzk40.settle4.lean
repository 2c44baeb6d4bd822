section
/-! The class's reader of texts: settleVar. -/
section TRK
variable {G : mG} {d z q w T A B D N C n p O P K Ab Be Cm V F c s s' L L' cnt Bn a d0 V1 F1 nw k e s9 Ab0 Be0 Cm0 Ab1 Be1 Cm1 : Nat} {M0 M M' M1 M2 : mM} {ns ns' ns1 : Nat → Int} {sf ef sf' ef' : Nat → Nat} {H : Nat → Nat} {S R : Nat → Prop}
theorem TN.more {r : Nat} (h : TN M r A n V F ns c) (hA : mI M' A = mI M A) (hr : mI M' r = mI M r) (ht : ∀ i, 6 ≤ i → i ≤ 9 → mI M' (r + i) = mI M (r + i)) : TN M' r A n (V + 1) F ns c := by
  obtain ⟨n1, n2, n3⟩ := h
  refine ⟨by rw [hr]; exact n1, n2, fun i hi => ?_⟩
  obtain ⟨m1, m2, m3⟩ := n3 i hi
  rw [hA, ht 6 (by omega) (by omega), ht 7 (by omega) (by omega), ht 8 (by omega) (by omega), ht 9 (by omega) (by omega)]
  refine ⟨m1, ?_, m3⟩
  rcases m2 with ⟨u1, u2, u3⟩ | u
  · exact Or.inl ⟨u1, u2, by omega⟩
  · exact Or.inr u
theorem PX.var (h : PX M q p O P V F ns sf ef L cnt) (f3 : mI M (q + 1) 3 ≠ 0 → mI M' (q + 1) 3 ≠ 0) (f5 : ∀ i, i ≠ 2 → i ≠ 3 → mI M' p i = mI M p i) (f6 : ∀ i, 6 ≤ i → i ≤ 15 → mI M' (p + i) = mI M (p + i)) (f7 : ∀ i, i < L → mI M' O i = mI M O i ∧ mI M' P i = mI M P i) : PX M' q p O P (V + 1) F ns sf ef L cnt := by
  obtain ⟨a1, a2⟩ := h
  refine ⟨by rw [f5 12 (by decide) (by decide)]; exact a1, fun h0 => ?_⟩
  obtain ⟨u, e, g1, g2, g3, g4, g5, g6, g7⟩ := a2 (Classical.byContradiction (fun y => f3 y h0))
  have cg : ∀ {s h : Nat}, PC M O P V F ns ef L s h → PC M' O P (V + 1) F ns ef L s h := fun hc => (hc.cg (M' := M') (fun i hi => (f7 i hi).1) (fun i hi => (f7 i hi).2)).wide (Nat.le_succ _) (Nat.le_refl _) (Nat.le_refl _) (fun _ _ => ⟨rfl, rfl⟩)
  refine ⟨u, by rw [f6 12 (by omega) (by omega)]; exact e, (g1.cg (M' := M') (fun i hi => (f7 i hi).1) (fun i hi => (f7 i hi).2) (fun i _ => by rw [f6 7 (by omega) (by omega)]) (fun i _ => by rw [f6 8 (by omega) (by omega)])).wide (Nat.le_succ _) (Nat.le_refl _), ?_, fun j hj => ?_, by rw [f6 12 (by omega) (by omega)]; exact g4, by rw [f6 12 (by omega) (by omega)]; exact g5, by rw [f6 12 (by omega) (by omega)]; exact g6, fun b hb => ?_⟩
  · rw [f5 11 (by decide) (by decide)]
    exact g2.imp (fun y => y) (fun ⟨s, y1, y2⟩ => ⟨s, y1, cg y2⟩)
  · obtain ⟨s, y1, y2⟩ := g3 j hj
    exact ⟨s, by rw [f6 11 (by omega) (by omega)]; exact y1, cg y2⟩
  · obtain ⟨s1, s2, y1, y2, y3, y4⟩ := g7 b hb
    exact ⟨s1, s2, by rw [f6 14 (by omega) (by omega)]; exact y1, cg y2, by rw [f6 15 (by omega) (by omega)]; exact y3, cg y4⟩
/-- the end: the name is known, the var counted, the code is gone -/
theorem s_sv_fin (h : TX M z q w T A B D N C n p O P K Ab Be Cm V F ns sf ef c cnt L) (hv : vrS M q A n p L s a nw V) (hV : V < 12) (hf : trF M0 q p O P Ab0 Be0 Cm0 M Ab Be Cm) (o1 : mOk M1) (f1 : FI (fun b => b = p + 3 ∨ b = p + 4 ∨ b = p + 5) M M1) : Cv G y_RR_know d [vr (q + 1), vi (mI M1 q 3), vi 5, vi (mI M1 p 3), vi (mI M1 q 8)] M1 (fun M136 => mOk M136 ∧ (mK M136 q = 3 ∧ mK M136 (mR M136 q 2) = 6 ∧ i32 ((mI M136 (mR M136 q 2) 3) + 1) ∧ ∀ M142, M142 = mUI M136 (mR M136 q 2) 3 ((mI M136 (mR M136 q 2) 3) + 1) → mK M142 (mR M142 q 2) = 6 ∧ ∀ M145, M145 = mUI M142 (mR M142 q 2) 2 (mI M142 q 4) → itE M0 z q w T A B D N C n p O P K Ab0 Be0 Cm0 M145)) := by
  obtain ⟨v1, v2, v3, v4, v5, v6, v7, v8, v9, v10, v11, v12⟩ := hv
  have ap := h.1.apart
  have qp := h.1.2.2.2.2.2.1.2.1
  have c3 := h.2.1.1.1
  have hN : n ≤ 16384 := by have := h.1.1.2.2.2.1.2.2.1; have := h.1.1.2.2.2.1.1.2.2.2.2.2.2.1; omega
  have nb1 : ∀ b, b ≠ p + 3 → b ≠ p + 4 → b ≠ p + 5 → mI M1 b = mI M b := fun b b1 b2 b3 => f1.2.2.2.2.2.2 b (fun y => by
    have y' : b = p + 3 ∨ b = p + 4 ∨ b = p + 5 := y
    omega)
  have fx1 : FI (txS q p O P) M M1 := f1.mono (fun b y => by
    have y' : b = p + 3 ∨ b = p + 4 ∨ b = p + 5 := y
    show (q ≤ b ∧ b ≤ q + 10) ∨ b = q + 21 ∨ b = q + 22 ∨ b = p ∨ (p + 3 ≤ b ∧ b ≤ p + 15) ∨ b = O ∨ b = P
    omega)
  have P1 := h.1.fi o1 fx1
  have A1 := (h.1.words fx1).1
  have e1 := nb1 q (by omega) (by omega) (by omega)
  have e2 := nb1 p (by omega) (by omega) (by omega)
  have e3 := nb1 (q + 1) (by omega) (by omega) (by omega)
  have tn : TN M1 (q + 1) A n (V + 1) F ns c := h.2.1.2.2.1.more A1 e3 (fun i _ _ => nb1 _ (by omega) (by omega) (by omega))
  have eO := nb1 O (by omega) (by omega) (by omega)
  have eP := nb1 P (by omega) (by omega) (by omega)
  have e6 : ∀ i, 6 ≤ i → i ≤ 15 → mI M1 (p + i) = mI M (p + i) := fun i h6 h15 => nb1 _ (by omega) (by omega) (by omega)
  have e5 : mI M1 (q + 6) = mI M (q + 6) := nb1 _ (by omega) (by omega) (by omega)
  rw [e1, e2, v7, c3]
  refine (s_RR_know (v := nw) (l2 := 5) (l3 := V) P1.1 tn v8 (by rw [A1]; exact v9) (i32s (by omega) (by omega)) (i32s (by omega) (by omega)) v11 (Or.inl ⟨rfl, by omega, by omega⟩)).mono (fun M136 k => ?_)
  obtain ⟨k1, k2, k3, k4, c', k5, -⟩ := k
  have nb2 : ∀ b, (b < q + 1 ∨ q + 1 + 9 < b) → mI M136 b = mI M1 b := fun b hb => k2.2.2.2.2.2.2 b (fun y => by have y' : q + 1 ≤ b ∧ b ≤ q + 1 + 9 := y; omega)
  have fx2 : FI (txS q p O P) M1 M136 := k2.mono (fun b y => Or.inl (by have y' : q + 1 ≤ b ∧ b ≤ q + 1 + 9 := y; omega))
  have P2 := P1.fi k1.1 fx2
  obtain ⟨t0, t1, t2, t3, t4, t5⟩ := P2.2.1
  have p2 : mI M136 p = mI M p := by rw [nb2 p (by omega), e2]
  have q2 : mI M136 q = mI M q := by rw [nb2 q (by omega), e1]
  rw [t3, p2, c3]
  refine ⟨k1.1, t0, P2.1.2.2.2.2.1.1, ⟨by omega, by omega⟩, fun M142 e142 => ?_⟩
  have f142 : FI (fun b => b = p) M136 M142 := by rw [e142]; exact FI.ui rfl
  have q3 : mI M142 q 4 = ((L : Nat) : Int) := by rw [f142.2.2.2.2.2.2 q (by omega), q2]; exact v10
  rw [f142.1, f142.2.2.1, t3, q3]
  refine ⟨P2.1.2.2.2.2.1.1, fun M145 e145 => ?_⟩
  have f145 : FI (fun b => b = p) M142 M145 := by rw [e145]; exact FI.ui rfl
  have ff := f142.trans f145
  have fx3 : FI (txS q p O P) M136 M145 := ff.mono (fun b y => Or.inr (Or.inr (Or.inr (Or.inl y))))
  have o145 : mOk M145 := by rw [e145]; exact mOk_UI (by rw [e142]; exact mOk_UI k1.1 ⟨by omega, by omega⟩) ⟨by omega, by omega⟩
  have nb3 : ∀ b, b ≠ p → mI M145 b = mI M136 b := fun b hb => ff.2.2.2.2.2.2 b hb
  have ip : ∀ i, mI M145 p i = if i = 2 then ((L : Nat) : Int) else if i = 3 then (V : Int) + 1 else mI M p i := fun i => by
    rw [mI_ui p i e145]
    by_cases y2 : i = 2
    · rw [if_pos ⟨rfl, y2⟩, if_pos y2]
    · rw [if_neg (fun u => y2 u.2), if_neg y2, mI_ui p i e142]
      by_cases y3 : i = 3
      · rw [if_pos ⟨rfl, y3⟩, if_pos y3]
      · rw [if_neg (fun u => y3 u.2), if_neg y3, p2]
  have rr : ∀ i, i ≠ 19 → mI M145 (q + 1) i = mI M (q + 1) i := fun i hi => by rw [nb3 _ (by omega), k3 i hi, e3]
  have P3 := P2.fi o145 fx3
  have h145 : TX M145 z q w T A B D N C n p O P K Ab Be Cm (V + 1) F ns sf ef c' cnt L := by
    obtain ⟨-, ⟨c1, c2, c3', c4⟩, hX⟩ := h
    refine ⟨P3, ⟨⟨by rw [ip, if_neg (by decide), if_pos rfl]; omega, by omega⟩, by rw [ip, if_neg (by decide), if_neg (by decide)]; exact c2, ?_, fun j => by rw [nb3 _ (by omega), show q + 6 = q + 1 + 5 by omega, k4 5 (by omega) (by omega), show q + 1 + 5 = q + 6 by omega, e5]; exact c4 j⟩, hX.var (fun y => by rw [rr 3 (by decide)]; exact y) (fun i i2 i3 => by rw [ip, if_neg i2, if_neg i3]) (fun i i6 i15 => by rw [nb3 _ (by omega), nb2 _ (by omega), e6 i i6 i15]) (fun i _ => ⟨by rw [nb3 O (by omega), nb2 O (by omega), eO], by rw [nb3 P (by omega), nb2 P (by omega), eP]⟩)⟩
    have A3 := (P2.words fx3).1
    unfold TN at k5 ⊢
    rw [A3, nb3 (q + 1) (by omega), nb3 (q + 1 + 6) (by omega), nb3 (q + 1 + 7) (by omega), nb3 (q + 1 + 8) (by omega), nb3 (q + 1 + 9) (by omega)]
    exact k5
  exact ⟨Ab, Be, Cm, V + 1, F, ns, sf, ef, c', cnt, L, a, h145, by rw [ip, if_pos rfl], by rw [rr 2 (by decide)]; exact v4, v5, by omega, by rw [rr 5 (by decide)]; exact v6, ((hf.trans (trF.fi fx1)).trans (trF.fi fx2)).trans (trF.fi fx3)⟩
theorem s_sv171 {l1 l2 l3 : Int} (i1 : i32 l1) (i2 : i32 l2) (i3 : i32 l3) (h : svS M0 z q w T A B D N C n p O P K Ab0 Be0 Cm0 V F ns sf ef c cnt L s a nw M) : h_TR_settleVar_171 G (d + 5) q l1 l2 l3 M (itE M0 z q w T A B D N C n p O P K Ab0 Be0 Cm0) := by
  obtain ⟨Ab, Be, Cm, h1, tr, hv, -, -⟩ := h
  obtain ⟨t0, t1, t2, t3, t4, t5⟩ := h1.1.2.1
  obtain ⟨k6, ⟨p4, p5, p6, -⟩, ⟨kp3, kp4, kp5, -⟩, ⟨np3, np4, np5, -⟩⟩ := h1.tab
  have c3 := h1.2.1.1.1
  refine k_TR_settleVar_171 h1.1.1.1 i1 i2 i3 ?_
  refine ⟨t0, by rw [t1]; exact h1.1.1.2.1.1, fun y0 => ?_, fun y0 => ?_⟩
  · rw [t1] at y0
    have hV : V < 12 := by
      by_cases u : 12 ≤ V
      · exact absurd y0 (hv.2.2.2.2.2.2.2.2.2.2.2 u)
      · omega
    rw [t3, p4, np3, c3, Int.toNat_natCast]
    refine ⟨k6, kp3, by omega, fun M122 e122 => ?_⟩
    have f122 : FI (fun b => b = p + 3) M M122 := by rw [e122]; exact FI.ui rfl
    rw [f122.1, f122.2.1, f122.2.2.1, t3, p5, np4, f122.2.2.2.2.2.2 p (by omega), c3, Int.toNat_natCast]
    refine ⟨k6, kp4, by omega, fun M127 e127 => ?_⟩
    have f127 : FI (fun b => b = p + 4) M122 M127 := by rw [e127]; exact FI.ui rfl
    rw [f127.1, f127.2.1, f127.2.2.1, f122.1, f122.2.1, f122.2.2.1, t3, p6, np5, f127.2.2.2.2.2.2 p (by omega), f122.2.2.2.2.2.2 p (by omega), c3, Int.toNat_natCast]
    refine ⟨k6, kp5, by omega, fun M132 e132 => ?_⟩
    have f132 : FI (fun b => b = p + 5) M127 M132 := by rw [e132]; exact FI.ui rfl
    have ff : FI (fun b => b = p + 3 ∨ b = p + 4 ∨ b = p + 5) M M132 := ((f122.mono (fun _ y => Or.inl y)).trans (f127.mono (fun _ y => Or.inr (Or.inl y)))).trans (f132.mono (fun _ y => Or.inr (Or.inr y)))
    have o132 : mOk M132 := by rw [e132]; exact mOk_UI (by rw [e127]; exact mOk_UI (by rw [e122]; exact mOk_UI h1.1.1.1 i1) i2) i3
    rw [ff.1, ff.2.2.1, t1, t3]
    exact ⟨k6, h1.1.1.2.1.1, s_sv_fin h1 hv hV tr o132 ff⟩
  · obtain ⟨v1, v2, v3, v4, v5, v6, -⟩ := hv
    exact ⟨Ab, Be, Cm, V, F, ns, sf, ef, c, cnt, s, a, h1.any (fun _ => v2), v1, v4, v5, v3, v6, tr⟩
theorem s_sv106 {l1 l2 : Int} (hF : FMs G) (i1 : i32 l1) (i2 : i32 l2) (h : svS M0 z q w T A B D N C n p O P K Ab0 Be0 Cm0 V F ns sf ef c cnt L s a nw M) : h_TR_settleVar_106 G (d + 5) q l1 l2 M (itE M0 z q w T A B D N C n p O P K Ab0 Be0 Cm0) := by
  obtain ⟨ok, t0, t1, k4, t2, k5, kA, nA, t6, k22, n22⟩ := h.pl
  refine k_TR_settleVar_106 ok i1 i2 ?_
  refine ⟨t0, by rw [t1]; exact k4, fun y => ⟨fun _ => ?_, fun _ => s_sv171 i1 i2 i1 h⟩, fun y => ?_⟩
  · rw [t1, t6, n22]
    exact ⟨k22, ⟨by omega, by omega⟩, (s_sv_note (i32s (by omega) (by omega)) (ok _ _).1 h).mono (fun M' k => ⟨k.1, s_sv171 i1 i2 i1 k.2⟩)⟩
  · rw [t1] at y
    have y0 : mI M (q + 1) 3 = 0 := Classical.byContradiction (fun u => y (Or.inl u))
    have y7 : mI M q 7 ≠ 0 := fun u => y (Or.inr u)
    have r2 : rvR M q O P F ns L s 2 := by
      obtain ⟨_, _, _, -, -, -, -, r7⟩ := h
      exact r7 y7
    refine (s_sv_works (k := 2) hF (by omega) (i32s (by omega) (by omega)) h y0 r2).mono (fun x79 M78 k => ?_)
    obtain ⟨i79, o78, h78, q78⟩ := k
    obtain ⟨-, u0, u1, w4, u2, w5, uA, vA, u6, w22, m22⟩ := h78.pl
    refine ⟨i79, o78, fun _ => ⟨u0, by rw [u2]; exact w5, by rw [u2]; exact uA, ⟨by omega, by rw [u2]; exact vA⟩⟩, fun v86 e86 => ?_⟩
    have i86 : i32 v86 := by
      rw [e86]
      split
      · exact i1
      · exact (o78 _ _).1
    refine ⟨i86, fun _ => ⟨u0, by rw [u6]; exact w22, ⟨by omega, by rw [u6, m22]; omega⟩, by rw [u1]; exact w4, ?_⟩, fun _ => s_sv171 i1 i2 i86 h78⟩
    rw [u1]
    exact (s_sv_note (i32s (by omega) (by omega)) (o78 _ _).1 h78).mono (fun M' k => ⟨k.1, s_sv171 i1 i2 i86 k.2⟩)
theorem s_sv76 {l1 l2 : Int} (hF : FMs G) (i1 : i32 l1) (i2 : i32 l2) (h : svS M0 z q w T A B D N C n p O P K Ab0 Be0 Cm0 V F ns sf ef c cnt L s a nw M) : h_TR_settleVar_76 G (d + 5) q l1 l2 M (itE M0 z q w T A B D N C n p O P K Ab0 Be0 Cm0) := by
  obtain ⟨ok, t0, t1, k4, t2, k5, kA, nA, t6, k22, n22⟩ := h.pl
  refine k_TR_settleVar_76w ok i1 i2 ⟨trivial, fun _ => ?_, fun _ => s_sv106 hF i1 i2 h⟩
  rw [t1, t6, n22]
  exact ⟨t0, k22, ⟨by omega, by omega⟩, k4, (s_sv_note (i32s (by omega) (by omega)) (ok _ _).1 h).mono (fun M' k => ⟨k.1, s_sv106 hF i1 i2 k.2⟩)⟩
theorem s_TR_settleVar (hF : FMs G) (h : TX M z q w T A B D N C n p O P K Ab Be Cm V F ns sf ef c cnt L) (hv : vrS M q A n p L s a nw V) (h8 : mI M q 8 = 0 → rvR M q O P F ns L s 0 ∧ rvR M q O P F ns L s 1) (h7 : mI M q 7 ≠ 0 → rvR M q O P F ns L s 2) : Cv G y_TR_settleVar (d + 6) [vr q] M (itE M z q w T A B D N C n p O P K Ab Be Cm) := by
  have hs : svS M z q w T A B D N C n p O P K Ab Be Cm V F ns sf ef c cnt L s a nw M := ⟨Ab, Be, Cm, h, trF.refl, hv, h8, h7⟩
  obtain ⟨ok, t0, t1, k4, t2, k5, kA, nA, t6, k22, n22⟩ := hs.pl
  refine k_TR_settleVar ok ?_
  refine ⟨t0, by rw [t1]; exact k4, fun y => ?_, fun _ => s_sv106 hF (i32s (by omega) (by omega)) (i32s (by omega) (by omega)) hs⟩
  rw [t1] at y
  refine (s_sv_works (k := 0) hF (by omega) (i32s (by omega) (by omega)) hs y.1 (h8 y.2).1).mono (fun x8 M7 k => ?_)
  obtain ⟨i8, o7, h7', q7⟩ := k
  obtain ⟨-, u0, u1, w4, u2, w5, uA, vA, u6, w22, m22⟩ := h7'.pl
  refine ⟨i8, o7, fun _ => ⟨u0, by rw [u2]; exact w5, by rw [u2]; exact uA, ⟨by omega, by rw [u2]; exact vA⟩⟩, fun v15 e15 => ?_⟩
  have i15 : i32 v15 := by
    rw [e15]
    split
    · exact i32s (by omega) (by omega)
    · exact (o7 _ _).1
  refine ⟨u0, by rw [u1]; exact w4, fun y3 => ?_, fun _ => s_sv76 hF i15 i15 h7'⟩
  rw [u1] at y3
  have r1 : rvR M7 q O P F ns L s 1 := by
    obtain ⟨_, _, _, -, -, -, r8, -⟩ := h7'
    exact (r8 (by rw [q7]; exact y.2)).2
  refine (s_sv_works (k := 1) hF (by omega) (i32s (by omega) (by omega)) h7' y3 r1).mono (fun x23 M22 k => ?_)
  obtain ⟨i23, o22, h22, q22⟩ := k
  obtain ⟨-, a0, a1, b4, a2, b5, aA, bA, a6, b22, c22⟩ := h22.pl
  refine ⟨i23, o22, fun _ => s_sv76 hF i15 i15 h22, fun _ => ⟨a0, by rw [a2]; exact b5, by rw [a2]; exact aA, ⟨by omega, by rw [a2]; exact bA⟩, s_sv76 hF i15 (o22 _ _).1 h22⟩⟩
end TRK
end
section
/-! The class's reader of texts: sets. -/
section TRL
variable {G : mG} {d z q w T A B D N C n p O P K Ab Be Cm V F c s s' L L' cnt Bn a d0 V1 F1 nw k e s9 S0 wd Ab0 Be0 Cm0 Ab1 Be1 Cm1 : Nat} {M0 M M' M1 M2 : mM} {ns ns' ns1 : Nat → Int} {sf ef sf' ef' : Nat → Nat} {H H1 : Nat → Nat} {S R : Nat → Prop}
theorem CO.join {s1 : Nat} (h : CO M O P V F ns H S0 s1 (fun _ => False)) (h0 : H s1 = 0) (g : CO M O P V F ns H1 s1 e (fun _ => False)) (g0 : H1 s1 = 0) (hs : S0 ≤ s1) (he : s1 ≤ e) : ∃ H', CO M O P V F ns H' S0 e (fun _ => False) ∧ H' S0 = H S0 ∧ H' e = H1 e := by
  obtain ⟨H', hH⟩ : ∃ H' : Nat → Nat, ∀ i, H' i = if i ≤ s1 then H i else H1 i := ⟨fun i => if i ≤ s1 then H i else H1 i, fun _ => rfl⟩
  have lo : ∀ i, i ≤ s1 → H' i = H i := fun i hi => by rw [hH, if_pos hi]
  have hi' : ∀ i, s1 ≤ i → H' i = H1 i := fun i hi => by
    by_cases y : i = s1
    · rw [y, lo s1 (Nat.le_refl _), h0, g0]
    · rw [hH, if_neg (by omega)]
  refine ⟨H', fun pc p0 p1 => ?_, lo S0 hs, hi' e he⟩
  by_cases y : pc < s1
  · obtain ⟨a1, a2, a3⟩ := h pc p0 y
    refine ⟨a1.cg (lo pc (by omega)) (lo (pc + 1) (by omega)), fun u => ?_, by rw [lo pc (by omega)]; exact a3⟩
    rcases a2 u with v | v
    · exact v.elim
    · exact Or.inr (v.cg (by omega) y (fun i hi => lo i hi))
  · obtain ⟨a1, a2, a3⟩ := g pc (by omega) p1
    refine ⟨a1.cg (hi' pc (by omega)) (hi' (pc + 1) (by omega)), fun u => ?_, by rw [hi' pc (by omega)]; omega⟩
    rcases a2 u with v | ⟨t, e1, t1, t2, t3, t4⟩
    · exact v.elim
    · refine Or.inr ⟨t, e1, t1, t2, ?_, ?_⟩
      · rw [hi' t (by omega), hi' pc (by omega)]; exact t3
      · rw [hi' t (by omega), hi' pc (by omega)]; exact t4
/-- the code of sets from S0 to s -/
def scI (M : mM) (O P V F : Nat) (ns : Nat → Int) (S0 s : Nat) : Prop := ∃ H, CO M O P V F ns H S0 s (fun _ => False) ∧ H S0 = 0 ∧ H s = 0 ∧ S0 ≤ s
theorem scI.cg (h : scI M O P V F ns S0 s) (hO : ∀ i, i < s → mI M' O i = mI M O i ∧ mI M' P i = mI M P i) : scI M' O P V F ns S0 s := by
  obtain ⟨H, h1, h2⟩ := h
  refine ⟨H, fun pc p0 p1 => ?_, h2⟩
  rw [(hO pc p1).1, (hO pc p1).2]
  exact h1 pc p0 p1
/-- one set more: a rule from s to e, and its SET -/
theorem scI.set {x : Int} (h : scI M O P V F ns S0 s) (g : CO M O P V F ns H1 s e (fun _ => False)) (g0 : H1 s = 0) (g1 : H1 e = 1) (hse : 1 + s ≤ e) (hO : ∀ i, mI M' O i = if i = e then 43 else mI M O i) (hP : ∀ i, mI M' P i = if i = e then x else mI M P i) (hx : 0 ≤ x ∧ x ≤ 1000000 ∧ x % 16 < V) : scI M' O P V F ns S0 (e + 1) := by
  obtain ⟨H, h1, h2, h3, h4⟩ := h
  obtain ⟨H', j1, j2, j3⟩ := h1.join h3 g g0 h4 (by omega)
  obtain ⟨H2, hH⟩ : ∃ H2 : Nat → Nat, ∀ i, H2 i = if i ≤ e then H' i else 0 := ⟨fun i => if i ≤ e then H' i else 0, fun _ => rfl⟩
  have lo : ∀ i, i ≤ e → H2 i = H' i := fun i hi => by rw [hH, if_pos hi]
  have l1 : H2 (e + 1) = 0 := by rw [hH, if_neg (by omega)]
  have l0 := lo e (Nat.le_refl _)
  refine ⟨H2, j1.add (by omega) lo (by omega) hO hP (fun i _ u => u) ?_ (fun u => ?_), by rw [lo S0 (by omega), j2, h2], l1, by omega⟩
  · exact Or.inr (Or.inr (Or.inr (Or.inr (Or.inr (Or.inr (Or.inr ⟨rfl, hx.1, hx.2.1, hx.2.2, by omega⟩))))))
  · exact absurd u (by unfold jm; omega)
def rsI (M0 : mM) (z q w T A B D N C n p O P K Ab Be Cm V F : Nat) (ns : Nat → Int) (sf ef : Nat → Nat) (c cnt L S0 a s9 : Nat) (M : mM) : Prop := TX M z q w T A B D N C n p O P K Ab Be Cm V F ns sf ef c cnt L ∧ txF M0 q p O P S0 M ∧ mI M (q + 1) 2 = ((a : Nat) : Int) ∧ a ≤ n ∧ mI M p 2 = ((s9 : Nat) : Int) ∧ S0 ≤ s9 ∧ s9 ≤ a ∧ mI M (q + 1) 5 = 0 ∧ mI M (q + 1) 6 = 0 ∧ (mI M (q + 1) 3 = 0 → scI M O P V F ns S0 s9) ∧ L ≤ S0
def rsQ9 (M0 : mM) (z q w T A B D N C n p O P K Ab Be Cm V F : Nat) (ns : Nat → Int) (sf ef : Nat → Nat) (c cnt L S0 : Nat) (x : Int) (M : mM) : Prop := txF M0 q p O P S0 M ∧ ((x = 0 ∧ nstQ z q w T A B D N C n p O P K Ab Be Cm V F ns sf ef c cnt L M) ∨ (x = 1 ∧ TX M z q w T A B D N C n p O P K Ab Be Cm V F ns sf ef c cnt L ∧ ∃ a s9 : Nat, mI M (q + 1) 2 = ((a : Nat) : Int) ∧ a ≤ n ∧ mI M p 2 = ((s9 + 1 : Nat) : Int) ∧ S0 ≤ s9 ∧ s9 ≤ a ∧ mI M (q + 1) 5 = 0 ∧ mI M (q + 1) 6 = 0 ∧ (mI M (q + 1) 3 = 0 → ∃ H, Cod M O P V F ns S0 s9 H 0)))
/-- the end of the sets -/
theorem s_rs_end (h : rsI M0 z q w T A B D N C n p O P K Ab Be Cm V F ns sf ef c cnt L S0 a s9 M) : Ci G y_Pr_add d [vr p, vi 0, vi 0] M (fun x22 M21 => i32 x22 ∧ mOk M21 ∧ (rsQ9 M0 z q w T A B D N C n p O P K Ab Be Cm V F ns sf ef c cnt L S0 1 M21)) := by
  obtain ⟨h1, f1, a1, a2, p1, p2, p3, d1, c1, sc, hL⟩ := h
  obtain ⟨⟨np0, np1, -, -⟩, ⟨nO0, nO1, -, -, -⟩, nP0, nP1, -, -, -⟩ := h1.1.ne
  refine (s_tx_add (i32s (by omega) (by omega)) (i32s (by omega) (by omega)) h1 p1 (by omega) (by omega)).mono (fun v M' k => ?_)
  obtain ⟨v1, v2, v3, v4, v5, v6, v7, v8⟩ := k
  have e1 := v8 (q + 1) np1.symm nO1.symm nP1.symm
  refine ⟨v1, v2, f1.trans (v4.less p2), Or.inr ⟨rfl, v3, a, s9, by rw [e1]; exact a1, a2, v5, p2, p3, by rw [e1]; exact d1, by rw [e1]; exact c1, fun y => ?_⟩⟩
  rw [e1] at y
  obtain ⟨H, u1, u2, u3, u4⟩ := sc y
  refine ⟨H, fun pc h0 h2 => ?_, u2, u3, by omega, by rw [v6, if_pos rfl], u4⟩
  rw [v6, v7, if_neg (by omega), if_neg (by omega)]
  exact u1 pc h0 h2
theorem s_rs168 {l2 l3 l4 l6 : Int} (i2 : i32 l2) (i3 : i32 l3) (b4 : 0 ≤ l4 ∧ l4 ≤ 16384) (h6 : l6 = -1 ∨ (0 ≤ l6 ∧ l6 < V)) (hw : wd < n ∧ mI M A wd = 2) (h : rsI M0 z q w T A B D N C n p O P K Ab Be Cm V F ns sf ef c cnt L S0 a s9 M) (hf : l6 = -1 → mI M (q + 1) 3 ≠ 0) (nx : ∀ (M1 : mM) (l1 l2 : Int) (a' s' : Nat), i32 l1 → i32 l2 → rsI M0 z q w T A B D N C n p O P K Ab Be Cm V F ns sf ef c cnt L S0 a' s' M1 → h_TR_readSets_22 G (d + 5) q l1 l2 (l3 + 1) M1 (rsQ9 M0 z q w T A B D N C n p O P K Ab Be Cm V F ns sf ef c cnt L S0)) : h_TR_readSets_168 G (d + 5) q l2 l3 l4 wd l6 M (rsQ9 M0 z q w T A B D N C n p O P K Ab Be Cm V F ns sf ef c cnt L S0) := by
  obtain ⟨h1, f1, a1, a2, p1, p2, p3, d1, c1, sc, hL⟩ := h
  obtain ⟨⟨np0, np1, -, -⟩, ⟨nO0, nO1, -, -, nOp⟩, nP0, nP1, -, -, nPp⟩ := h1.1.ne
  obtain ⟨q01, q10, q210, q211, -⟩ := q_ne q
  have hV := h1.2.1.1.2
  have hN : n ≤ 16384 := by have := h1.1.1.2.2.2.1.2.2.1; have := h1.1.1.2.2.2.1.1.2.2.2.2.2.2.1; omega
  obtain ⟨t0, t1, t2, t3, t4, t5⟩ := h1.1.2.1
  refine k_TR_readSets_168 h1.1.1.1 i2 i3 (i32s (by omega) (by omega)) (i32s (by omega) (by omega)) (i32s (by omega) (by omega)) (fun v73 e73 => ?_)
  have i73 : i32 (orI l2 v73) := m_i32 _
  clear e73
  rw [t1, d1]
  refine ⟨t0, h1.1.1.2.1.1, ⟨by decide, by decide⟩, fun M80 e80 => ?_⟩
  obtain ⟨h80, x80, g80⟩ := tx_ui h1 ⟨by decide, by decide⟩ e80 (Or.inr (Or.inr (Or.inr (Or.inl ⟨rfl, Or.inr (Or.inl rfl)⟩))))
  have f80 : txF M0 q p O P S0 M80 := f1.trans ⟨x80.1, x80.2.1, x80.2.2.1, x80.2.2.2.1, x80.2.2.2.2.1, x80.2.2.2.2.2.1, fun i _ => ⟨by rw [g80, if_neg (fun u => nO1 u.1)], by rw [g80, if_neg (fun u => nP1 u.1)]⟩⟩
  have r80 : ∀ i, i ≠ 5 → mI M80 (q + 1) i = mI M (q + 1) i := fun i hi => by rw [g80, if_neg (fun u => hi u.2)]
  have b80 : ∀ b, b ≠ q + 1 → mI M80 b = mI M b := fun b hb => by
    funext i
    rw [g80, if_neg (fun u => hb u.1)]
  have d80 : mI M80 (q + 1) 5 = ((1 : Nat) : Int) := by rw [g80, if_pos ⟨rfl, rfl⟩]; rfl
  have a80 : mI M80 (q + 1) 2 = ((a : Nat) : Int) := by rw [r80 2 (by decide)]; exact a1
  rw [h80.1.2.1.2.1]
  refine ⟨h80.1.1.2.1.1, (s_tx_accept (x := 39) (i32s (by omega) (by omega)) (by omega) h80 a80 a2).mono (fun x84 M83 k => ?_)⟩
  obtain ⟨i84, o83, -, h83, x83, k83, r83, b83⟩ := k
  have f83 : txF M0 q p O P S0 M83 := f80.trans ⟨x83.1, x83.2.1, x83.2.2.1, x83.2.2.2.1, x83.2.2.2.2.1, x83.2.2.2.2.2.1, fun i _ => ⟨by rw [b83 O nO1], by rw [b83 P nP1]⟩⟩
  refine ⟨i84, o83, fun y => ?_, fun y => ?_⟩
  · rw [(k83.resolve_left (fun u => by rw [y] at u; exact absurd u.1 (by decide))).2]
    exact ⟨f80, Or.inl ⟨rfl, h80, a, a80, a2⟩⟩
  obtain ⟨-, -, a83, an83⟩ := k83.resolve_right (fun u => y u.1)
  clear k83
  rw [h83.1.2.1.2.1]
  refine ⟨h83.1.2.1.1, h83.1.1.2.1.1, (s_tx_accept (x := 24) (i32s (by omega) (by omega)) (by omega) h83 a83 an83).mono (fun x91 M90 k => ?_)⟩
  obtain ⟨i91, o90, -, h90, x90, k90, r90, b90⟩ := k
  have f90 : txF M0 q p O P S0 M90 := f83.trans ⟨x90.1, x90.2.1, x90.2.2.1, x90.2.2.2.1, x90.2.2.2.2.1, x90.2.2.2.2.2.1, fun i _ => ⟨by rw [b90 O nO1], by rw [b90 P nP1]⟩⟩
  refine ⟨i91, o90, fun y => ?_, fun y => ?_⟩
  · rw [(k90.resolve_left (fun u => by rw [y] at u; exact absurd u.1 (by decide))).2]
    exact ⟨f83, Or.inl ⟨rfl, h83, a + 1, a83, an83⟩⟩
  obtain ⟨-, -, a90, an90⟩ := k90.resolve_right (fun u => y u.1)
  clear k90
  have A90 : mI M90 A wd = 2 := by rw [(h83.1.words x90.1).1, (h80.1.words x83.1).1, (h1.1.words x80.1).1]; exact hw.2
  have p90 : mI M90 p 2 = ((s9 : Nat) : Int) := by rw [b90 p np1, b83 p np1, b80 p np1]; exact p1
  have d90 : mI M90 (q + 1) 5 = ((1 : Nat) : Int) := by rw [r90 5 (by decide), r83 5 (by decide)]; exact d80
  have c90 : mI M90 (q + 1) 6 = 0 := by rw [r90 6 (by decide), r83 6 (by decide), r80 6 (by decide)]; exact c1
  have l90 : mI M90 (q + 1) 3 = mI M (q + 1) 3 := by rw [r90 3 (by decide), r83 3 (by decide), r80 3 (by decide)]
  have sc90 : mI M (q + 1) 3 = 0 → scI M90 O P V F ns S0 s9 := fun y => (sc y).cg (fun i _ => ⟨by rw [b90 O nO1, b83 O nO1, b80 O nO1], by rw [b90 P nP1, b83 P nP1, b80 P nP1]⟩)
  clear x80 g80 r80 b80 d80 a80 f80 f83 r83 b83 r90 b90 x83 x90 h80 sc a1 p1 d1 c1 f1
  rw [h90.1.2.1.2.1]
  refine ⟨h90.1.2.1.1, h90.1.1.2.1.1, (s_RR_kindOf h90.1.1 h90.2.1.2.2.1.nk hw.1 A90).mono (fun x98 M97 k => ?_)⟩
  obtain ⟨e97, x980, x981⟩ := k
  subst e97
  refine ⟨i32s (by omega) (by omega), o90, h90.1.1.2.1.1, (s_tx_rule (d0 := 1) (i32s (by omega) (by omega)) (i32s (by omega) (by omega)) h90 a90 (by omega) p90 (by omega) (by omega) d90 (by omega) h90.2.1.2.2.1.nk).mono (fun x102 M101 k => ?_)⟩
  obtain ⟨i102, o101, h101, x101, ⟨c101, -⟩, k101⟩ := k
  have f101 : txF M0 q p O P S0 M101 := f90.trans (x101.less p2)
  refine ⟨i102, o101, fun y => ?_, fun y => ?_⟩
  · obtain ⟨-, u⟩ := k101.resolve_right (fun u => by rw [y] at u; exact absurd u.1 (by decide))
    exact ⟨f101, Or.inl ⟨rfl, h101, u⟩⟩
  obtain ⟨-, e, H1, a', u1, u2, u3, u4, u5, u6, u7, u8, u9, u10⟩ := k101.resolve_left (fun u => y u.1)
  clear k101
  rw [h101.1.2.1.2.1]
  refine ⟨h101.1.2.1.1, h101.1.1.2.1.1, (s_tx_accept (x := 38) (i32s (by omega) (by omega)) (by omega) h101 u6 u8).mono (fun x109 M108 k => ?_)⟩
  obtain ⟨i109, o108, -, h108, x108, k108, r108, b108⟩ := k
  refine ⟨i109, o108, fun y => ?_, fun y => ?_⟩
  · rw [(k108.resolve_left (fun u => by rw [y] at u; exact absurd u.1 (by decide))).2]
    exact ⟨f101, Or.inl ⟨rfl, h101, a', u6, u8⟩⟩
  obtain ⟨-, -, a108, an108⟩ := k108.resolve_right (fun u => y u.1)
  clear k108
  have d108 : mI M108 (q + 1) 5 = 1 := by rw [r108 5 (by decide), u10]; exact d90
  rw [h108.1.2.1.2.1, d108]
  refine ⟨h108.1.2.1.1, h108.1.1.2.1.1, ⟨by decide, by decide⟩, fun M116 e116 => ?_⟩
  obtain ⟨h116, x116, g116⟩ := tx_ui h108 ⟨by decide, by decide⟩ e116 (Or.inr (Or.inr (Or.inr (Or.inl ⟨rfl, Or.inr (Or.inl rfl)⟩))))
  have b116 : ∀ b, b ≠ q + 1 → mI M116 b = mI M101 b := fun b hb => by
    rw [← b108 b hb]
    funext i
    rw [g116, if_neg (fun u => hb u.1)]
  have r116 : ∀ i, i ≠ 5 → i ≠ 2 → mI M116 (q + 1) i = mI M101 (q + 1) i := fun i hi hj => by rw [g116, if_neg (fun u => hi u.2), r108 i hj]
  have a116 : mI M116 (q + 1) 2 = ((a' + 1 : Nat) : Int) := by rw [g116, if_neg (fun u => absurd u.2 (by decide))]; exact a108
  have d116 : mI M116 (q + 1) 5 = 0 := by rw [g116, if_pos ⟨rfl, rfl⟩]; rfl
  have xx : txF M101 q p O P S0 M116 := by
    have u := x108.trans x116
    exact ⟨u.1, u.2.1, u.2.2.1, u.2.2.2.1, u.2.2.2.2.1, u.2.2.2.2.2.1, fun i _ => ⟨by rw [b116 O nO1], by rw [b116 P nP1]⟩⟩
  have f116 := f101.trans xx
  have p116 : mI M116 p 2 = ((e : Nat) : Int) := by rw [b116 p np1]; exact u5
  rw [h116.1.2.1.2.2.2.1]
  have i43 : i32 ((l4 * 16) + (if l6 < 0 then 0 else l6)) := by
    clear h1 h83 h90 h101 h108 h116 nx sc90 u1
    split <;> exact ⟨by omega, by omega⟩
  refine ⟨h116.1.1.2.2.2.2.1.1, (s_tx_add (i32s (by omega) (by omega)) i43 h116 p116 (by omega) (by omega)).mono (fun v M119 k => ?_)⟩
  obtain ⟨v1, v2, v3, v4, v5, v6, v7, v8⟩ := k
  have e1 := v8 (q + 1) np1.symm nO1.symm nP1.symm
  have f119 := f116.trans (v4.less (show S0 ≤ e by omega))
  rw [v3.1.2.1.2.1]
  refine ⟨v1, v2, v3.1.2.1.1, v3.1.1.2.1.1, (s_tx_accept (x := 30) (a := a' + 1) (i32s (by omega) (by omega)) (by omega) v3 (by rw [e1]; exact a116) an108).mono (fun x125 M124 k => ?_)⟩
  obtain ⟨i125, o124, -, h124, x124, k124, r124, b124⟩ := k
  have f124 : txF M0 q p O P S0 M124 := f119.trans ⟨x124.1, x124.2.1, x124.2.2.1, x124.2.2.2.1, x124.2.2.2.2.1, x124.2.2.2.2.2.1, fun i _ => ⟨by rw [b124 O nO1], by rw [b124 P nP1]⟩⟩
  have sc124 : mI M124 (q + 1) 3 = 0 → scI M124 O P V F ns S0 (e + 1) := fun y => by
    rw [r124 3 (by decide), e1, r116 3 (by decide) (by decide)] at y
    have y90 : mI M (q + 1) 3 = 0 := by
      rw [← l90]
      exact Classical.byContradiction (fun u => x101.2.2.1 u y)
    have y6 : 0 ≤ l6 ∧ l6 < V := h6.resolve_left (fun u => hf u y90)
    have s1 : scI M101 O P V F ns S0 s9 := (sc90 y90).cg (fun i hi => x101.2.2.2.2.2.2 i hi)
    refine s1.set (x := (l4 * 16) + (if l6 < 0 then 0 else l6)) u1 u2 u3 u4 (fun i => ?_) (fun i => ?_) ?_
    · rw [b124 O nO1, v6, b116 O nO1]
    · rw [b124 P nP1, v7, b116 P nP1]
    · rw [if_neg (by omega)]
      clear h1 h83 h90 h101 h108 h116 nx sc90 u1 s1
      exact ⟨by omega, by omega, by omega⟩
  have p124 : mI M124 p 2 = ((e + 1 : Nat) : Int) := by rw [b124 p np1]; exact v5
  have d124 : mI M124 (q + 1) 5 = 0 := by rw [r124 5 (by decide), e1]; exact d116
  have c124 : mI M124 (q + 1) 6 = 0 := by rw [r124 6 (by decide), e1, r116 6 (by decide) (by decide), c101]; exact c90
  refine ⟨i125, o124, ?_⟩
  rcases k124 with ⟨-, -, a124, an124⟩ | ⟨-, e2⟩
  · exact nx M124 x125 _ (a' + 1 + 1) (e + 1) i125 i73 ⟨h124, f124, a124, an124, p124, by omega, by omega, d124, c124, sc124, hL⟩
  · exact nx M124 x125 _ (a' + 1) (e + 1) i125 i73 ⟨h124, f124, by rw [e2, e1]; exact a116, an108, p124, by omega, by omega, d124, c124, sc124, hL⟩
end TRL
end
section
/-! The class's reader of texts: sets, the whole; chances. -/
section TRM
variable {G : mG} {d z q w T A B D N C n p O P K Ab Be Cm V F c s s' L L' cnt Bn a d0 V1 F1 nw k e s9 S0 wd ix nbr Ab0 Be0 Cm0 Ab1 Be1 Cm1 : Nat} {M0 M M' M1 M2 : mM} {ns ns' ns1 : Nat → Int} {sf ef sf' ef' : Nat → Nat} {H H1 : Nat → Nat} {S R : Nat → Prop}
theorem rsI.note (h : rsI M0 z q w T A B D N C n p O P K Ab Be Cm V F ns sf ef c cnt L S0 a s9 M) (h2 : TX M' z q w T A B D N C n p O P K Ab Be Cm V F ns sf ef c cnt L) (x2 : txF M q p O P L M') (r2 : ∀ i, i ≠ 3 → i ≠ 4 → mI M' (q + 1) i = mI M (q + 1) i) (b2 : ∀ b, b ≠ q + 1 → mI M' b = mI M b) : rsI M0 z q w T A B D N C n p O P K Ab Be Cm V F ns sf ef c cnt L S0 a s9 M' := by
  obtain ⟨h1, f1, a1, a2, p1, p2, p3, d1, c1, sc, hL⟩ := h
  obtain ⟨⟨np0, np1, -, -⟩, ⟨nO0, nO1, -, -, -⟩, nP0, nP1, -, -, -⟩ := h1.1.ne
  refine ⟨h2, f1.trans ⟨x2.1, x2.2.1, x2.2.2.1, x2.2.2.2.1, x2.2.2.2.2.1, x2.2.2.2.2.2.1, fun i _ => ⟨by rw [b2 O nO1], by rw [b2 P nP1]⟩⟩, by rw [r2 2 (by decide) (by decide)]; exact a1, a2, by rw [b2 p np1]; exact p1, p2, p3, by rw [r2 5 (by decide) (by decide)]; exact d1, by rw [r2 6 (by decide) (by decide)]; exact c1, fun y => ?_, hL⟩
  exact (sc (Classical.byContradiction (fun u => x2.2.2.1 u y))).cg (fun i _ => ⟨by rw [b2 O nO1], by rw [b2 P nP1]⟩)
/-- a word more -/
theorem rsI.acc (h : rsI M0 z q w T A B D N C n p O P K Ab Be Cm V F ns sf ef c cnt L S0 a s9 M) (h2 : TX M' z q w T A B D N C n p O P K Ab Be Cm V F ns sf ef c cnt L) (x2 : txF M q p O P L M') (ha : mI M' (q + 1) 2 = ((a + 1 : Nat) : Int)) (han : a < n) (r2 : ∀ i, i ≠ 2 → mI M' (q + 1) i = mI M (q + 1) i) (b2 : ∀ b, b ≠ q + 1 → mI M' b = mI M b) : rsI M0 z q w T A B D N C n p O P K Ab Be Cm V F ns sf ef c cnt L S0 (a + 1) s9 M' := by
  obtain ⟨h1, f1, a1, a2, p1, p2, p3, d1, c1, sc, hL⟩ := h
  obtain ⟨⟨np0, np1, -, -⟩, ⟨nO0, nO1, -, -, -⟩, nP0, nP1, -, -, -⟩ := h1.1.ne
  refine ⟨h2, f1.trans ⟨x2.1, x2.2.1, x2.2.2.1, x2.2.2.2.1, x2.2.2.2.2.1, x2.2.2.2.2.2.1, fun i _ => ⟨by rw [b2 O nO1], by rw [b2 P nP1]⟩⟩, ha, han, by rw [b2 p np1]; exact p1, p2, Nat.le_succ_of_le p3, by rw [r2 5 (by decide)]; exact d1, by rw [r2 6 (by decide)]; exact c1, fun y => ?_, hL⟩
  exact (sc (Classical.byContradiction (fun u => x2.2.2.1 u y))).cg (fun i _ => ⟨by rw [b2 O nO1], by rw [b2 P nP1]⟩)
theorem s_rs22 : ∀ (t i : Nat) (M : mM) (l1 l2 : Int) (a s9 : Nat), n + 1 ≤ i + t → i ≤ n + 1 → i32 l1 → i32 l2 → rsI M0 z q w T A B D N C n p O P K Ab Be Cm V F ns sf ef c cnt L S0 a s9 M → h_TR_readSets_22 G (d + 5) q l1 l2 i M (rsQ9 M0 z q w T A B D N C n p O P K Ab Be Cm V F ns sf ef c cnt L S0) := by
  intro t
  induction t with
  | zero =>
    intro i M l1 l2 a s9 ht hi i1 i2 h
    have h1 := h.1
    obtain ⟨t0, t1, t2, t3, t4, t5⟩ := h1.1.2.1
    have r0 := h1.1.1.2.2.1.1
    have w1 := h1.1.1.2.2.2.1.1.1
    have w2 := h1.1.1.2.2.2.1.2.1
    have hN : n ≤ 16384 := by have := h1.1.1.2.2.2.1.2.2.1; have := h1.1.1.2.2.2.1.1.2.2.2.2.2.2.1; omega
    refine k_TR_readSets_22 h1.1.1.1 i1 i2 (i32s (by omega) (by omega)) ?_
    rw [t1, r0, w2, t3]
    exact ⟨t0, h1.1.1.2.1.1, w1, fun _ => ⟨h1.1.1.2.2.2.2.1.1, s_rs_end h⟩, fun y => absurd (Or.inl (by omega)) y⟩
  | succ t ih =>
    intro i M l1 l2 a s9 ht hi i1 i2 h
    have h1 := h.1
    have a1 := h.2.2.1
    have a2 := h.2.2.2.1
    have d1 := h.2.2.2.2.2.2.2.1
    have f1 := h.2.1
    obtain ⟨t0, t1, t2, t3, t4, t5⟩ := h1.1.2.1
    have r0 := h1.1.1.2.2.1.1
    have w1 := h1.1.1.2.2.2.1.1.1
    have w2 := h1.1.1.2.2.2.1.2.1
    have hN : n ≤ 16384 := by have := h1.1.1.2.2.2.1.2.2.1; have := h1.1.1.2.2.2.1.1.2.2.2.2.2.2.1; omega
    refine k_TR_readSets_22 h1.1.1.1 i1 i2 (i32s (by omega) (by omega)) ?_
    rw [t1, r0, w2, t3]
    refine ⟨t0, h1.1.1.2.1.1, w1, fun _ => ⟨h1.1.1.2.2.2.2.1.1, s_rs_end h⟩, fun y => (s_RR_here h1.1.1 a1 a2).mono (fun x26 M25 k => ?_)⟩
    have i1n : i < n + 1 := by
      by_cases u : ((n : Int) + 1 ≤ i)
      · exact absurd (Or.inl u) y
      · omega
    obtain ⟨e25, -, x0, x1⟩ := k
    subst e25
    rw [t1, d1]
    refine ⟨i32s (by omega) (by omega), h1.1.1.1, t0, h1.1.1.2.1.1, fun u => absurd u (by decide), fun _ => (s_tx_accept (x := 37) (i32s (by omega) (by omega)) (by omega) h1 a1 a2).mono (fun x33 M32 k => ?_)⟩
    obtain ⟨i33, o32, -, h32, x32, k32, r32, b32⟩ := k
    refine ⟨i33, o32, fun u => ?_, fun u => ?_⟩
    · rw [(k32.resolve_left (fun v => by rw [u] at v; exact absurd v.1 (by decide))).2]
      exact ⟨f1, Or.inl ⟨rfl, h1, a, a1, a2⟩⟩
    obtain ⟨-, -, a32, an32⟩ := k32.resolve_right (fun v => u v.1)
    clear k32
    have I32 := h.acc h32 x32 a32 an32 r32 b32
    clear x32 r32 b32
    rw [h32.1.2.1.2.1, a32]
    refine ⟨h32.1.2.1.1, h32.1.1.2.1.1, (s_tx_accept (x := 2) (i32s (by omega) (by omega)) (by omega) h32 a32 an32).mono (fun x40 M39 k => ?_)⟩
    obtain ⟨i40, o39, -, h39, x39, k39, r39, b39⟩ := k
    refine ⟨i40, o39, fun u => ?_, fun u => ?_⟩
    · rw [(k39.resolve_left (fun v => by rw [u] at v; exact absurd v.1 (by decide))).2]
      exact ⟨I32.2.1, Or.inl ⟨rfl, h32, a + 1, a32, an32⟩⟩
    obtain ⟨-, e39, a39, an39⟩ := k39.resolve_right (fun v => u v.1)
    clear k39
    have I39 := I32.acc h39 x39 a39 an39 r39 b39
    have A39 : mI M39 A (a + 1) = 2 := by rw [(h32.1.words x39.1).1]; exact e39
    clear x39 r39 b39 e39
    have c39 := I39.2.2.2.2.2.2.2.2.1
    have hV := h39.2.1.1.2
    have nxt : ∀ (M1 : mM) (l1 l2 : Int) (a' s' : Nat), i32 l1 → i32 l2 → rsI M0 z q w T A B D N C n p O P K Ab Be Cm V F ns sf ef c cnt L S0 a' s' M1 → h_TR_readSets_22 G (d + 5) q l1 l2 ((i : Int) + 1) M1 (rsQ9 M0 z q w T A B D N C n p O P K Ab Be Cm V F ns sf ef c cnt L S0) := fun M1 l1 l2 a' s' j1 j2 hh => by
      rw [show ((i : Int) + 1) = ((i + 1 : Nat) : Int) by omega]
      exact ih (i + 1) M1 l1 l2 a' s' (by omega) (by omega) j1 j2 hh
    obtain ⟨⟨ww1, ⟨p0, p3, p4, p5⟩, -, ⟨kA, kB, kD⟩, ⟨cA, cB, cD⟩, w6, w7, w8, -⟩, -⟩ := id h39.1.1.2.2.2.1
    have nN := h39.1.1.2.2.2.1.2.2.1
    have rr0 := h39.1.1.2.2.1.1
    rw [h39.1.2.1.2.1]
    refine ⟨h39.1.2.1.1, h39.1.1.2.1.1, (s_RR_varOf h39.1.1 h39.2.1.2.2.1.nk an39 A39 c39).mono (fun x47 M46 k => ?_)⟩
    obtain ⟨e46, hx⟩ := k
    subst e46
    have i47 : i32 x47 := ⟨by omega, by omega⟩
    rw [h39.1.2.1.2.1, rr0, p4, cB, Int.toNat_natCast]
    refine ⟨i47, o39, fun v => ⟨h39.1.2.1.1, h39.1.1.2.1.1, ww1, kB, by omega, ?_⟩, fun v => ⟨fun _ => s_rs168 i2 (i32s (by omega) (by omega)) ⟨x0, x1⟩ hx ⟨an39, A39⟩ I39 (fun e => absurd e v) nxt, fun _ => ⟨h39.1.2.1.1, h39.1.1.2.1.1, ww1, kB, by omega, ?_⟩⟩⟩
    · refine (s_tx_note (x := 2) (i32s (by omega) (by omega)) (by omega) (o39 _ _).1 h39).mono (fun M57 k => ?_)
      obtain ⟨o57, h57, x57, u3, u4, u5⟩ := k
      exact ⟨o57, s_rs168 i2 (i32s (by omega) (by omega)) ⟨x0, x1⟩ hx ⟨an39, by rw [(h39.1.words x57.1).1]; exact A39⟩ (I39.note h57 x57 u4 u5) (fun _ => u3) nxt⟩
    · refine (s_tx_note (x := 4) (i32s (by omega) (by omega)) (by omega) (o39 _ _).1 h39).mono (fun M57 k => ?_)
      obtain ⟨o57, h57, x57, u3, u4, u5⟩ := k
      exact ⟨o57, s_rs168 i2 (i32s (by omega) (by omega)) ⟨x0, x1⟩ hx ⟨an39, by rw [(h39.1.words x57.1).1]; exact A39⟩ (I39.note h57 x57 u4 u5) (fun _ => u3) nxt⟩
theorem s_TR_readSets (h : rsI M0 z q w T A B D N C n p O P K Ab Be Cm V F ns sf ef c cnt L S0 a s9 M) : Ci G y_TR_readSets (d + 6) [vr q] M (rsQ9 M0 z q w T A B D N C n p O P K Ab Be Cm V F ns sf ef c cnt L S0) := by
  have h1 := h.1
  have a1 := h.2.2.1
  have a2 := h.2.2.2.1
  obtain ⟨t0, t1, t2, t3, t4, t5⟩ := h1.1.2.1
  refine k_TR_readSets h1.1.1.1 ?_
  rw [t1]
  refine ⟨t0, h1.1.1.2.1.1, (s_tx_accept (x := 11) (i32s (by omega) (by omega)) (by omega) h1 a1 a2).mono (fun x4 M3 k => ?_)⟩
  obtain ⟨i4, o3, -, h3, x3, k3, r3, b3⟩ := k
  refine ⟨i4, o3, fun v7 e7 => ?_⟩
  have i7 : i32 v7 := by rw [e7]; split <;> exact i32s (by omega) (by omega)
  rcases k3 with ⟨-, -, a3, an3⟩ | ⟨-, e3⟩
  · exact s_rs22 (n + 1) 0 M3 v7 0 (a + 1) s9 (by omega) (by omega) i7 (i32s (by omega) (by omega)) (h.acc h3 x3 a3 an3 r3 b3)
  · rw [e3]
    exact s_rs22 (n + 1) 0 M v7 0 a s9 (by omega) (by omega) i7 (i32s (by omega) (by omega)) h
end TRM
end
