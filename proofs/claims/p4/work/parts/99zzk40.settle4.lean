/-! The class's reader of texts: settleVar. -/
section TRK
variable {G : mG} {d z q w T A B D N C n p O P K Ab Be Cm V F c s s' L L' cnt Bn a d0 V1 F1 nw k e s9 Ab0 Be0 Cm0 Ab1 Be1 Cm1 : Nat} {M0 M M' M1 M2 : mM} {ns ns' ns1 : Nat → Int} {sf ef sf' ef' : Nat → Nat} {H : Nat → Nat} {S R : Nat → Prop}
theorem TN.more {r : Nat} (h : TN M r A n V F ns c) (hA : mI M' A = mI M A) (hr : mI M' r = mI M r) (ht : ∀ i, 6 ≤ i → i ≤ 9 → mI M' (r + i) = mI M (r + i)) : TN M' r A n (V + 1) F ns c := by
  obtain ⟨n1, n2, n3⟩ := h
  refine ⟨by rw [hr]; exact n1, n2, fun i hi => ?_⟩
  obtain ⟨m1, m2, m3⟩ := n3 i hi
  rw [hA, ht 6 (by omega) (by omega), ht 7 (by omega) (by omega), ht 8 (by omega) (by omega), ht 9 (by omega) (by omega)]
  refine ⟨m1, ?_, m3⟩
  rcases m2 with ⟨u1, u2, u3⟩ | u
  · exact Or.inl ⟨u1, u2, by omega⟩
  · exact Or.inr u
theorem PX.var (h : PX M q p O P V F ns sf ef L cnt) (f3 : mI M (q + 1) 3 ≠ 0 → mI M' (q + 1) 3 ≠ 0) (f5 : ∀ i, i ≠ 2 → i ≠ 3 → mI M' p i = mI M p i) (f6 : ∀ i, 6 ≤ i → i ≤ 15 → mI M' (p + i) = mI M (p + i)) (f7 : ∀ i, i < L → mI M' O i = mI M O i ∧ mI M' P i = mI M P i) : PX M' q p O P (V + 1) F ns sf ef L cnt := by
  obtain ⟨a1, a2⟩ := h
  refine ⟨by rw [f5 12 (by decide) (by decide)]; exact a1, fun h0 => ?_⟩
  obtain ⟨u, e, g1, g2, g3, g4, g5, g6, g7⟩ := a2 (Classical.byContradiction (fun y => f3 y h0))
  have cg : ∀ {s h : Nat}, PC M O P V F ns ef L s h → PC M' O P (V + 1) F ns ef L s h := fun hc => (hc.cg (M' := M') (fun i hi => (f7 i hi).1) (fun i hi => (f7 i hi).2)).wide (Nat.le_succ _) (Nat.le_refl _) (Nat.le_refl _) (fun _ _ => ⟨rfl, rfl⟩)
  refine ⟨u, by rw [f6 12 (by omega) (by omega)]; exact e, (g1.cg (M' := M') (fun i hi => (f7 i hi).1) (fun i hi => (f7 i hi).2) (fun i _ => by rw [f6 7 (by omega) (by omega)]) (fun i _ => by rw [f6 8 (by omega) (by omega)])).wide (Nat.le_succ _) (Nat.le_refl _), ?_, fun j hj => ?_, by rw [f6 12 (by omega) (by omega)]; exact g4, by rw [f6 12 (by omega) (by omega)]; exact g5, by rw [f6 12 (by omega) (by omega)]; exact g6, fun b hb => ?_⟩
  · rw [f5 11 (by decide) (by decide)]
    exact g2.imp (fun y => y) (fun ⟨s, y1, y2⟩ => ⟨s, y1, cg y2⟩)
  · obtain ⟨s, y1, y2⟩ := g3 j hj
    exact ⟨s, by rw [f6 11 (by omega) (by omega)]; exact y1, cg y2⟩
  · obtain ⟨s1, s2, y1, y2, y3, y4⟩ := g7 b hb
    exact ⟨s1, s2, by rw [f6 14 (by omega) (by omega)]; exact y1, cg y2, by rw [f6 15 (by omega) (by omega)]; exact y3, cg y4⟩
/-- the end: the name is known, the var counted, the code is gone -/
theorem s_sv_fin (h : TX M z q w T A B D N C n p O P K Ab Be Cm V F ns sf ef c cnt L) (hv : vrS M q A n p L s a nw V) (hV : V < 12) (hf : trF M0 q p O P Ab0 Be0 Cm0 M Ab Be Cm) (o1 : mOk M1) (f1 : FI (fun b => b = p + 3 ∨ b = p + 4 ∨ b = p + 5) M M1) : Cv G y_RR_know d [vr (q + 1), vi (mI M1 q 3), vi 5, vi (mI M1 p 3), vi (mI M1 q 8)] M1 (fun M136 => mOk M136 ∧ (mK M136 q = 3 ∧ mK M136 (mR M136 q 2) = 6 ∧ i32 ((mI M136 (mR M136 q 2) 3) + 1) ∧ ∀ M142, M142 = mUI M136 (mR M136 q 2) 3 ((mI M136 (mR M136 q 2) 3) + 1) → mK M142 (mR M142 q 2) = 6 ∧ ∀ M145, M145 = mUI M142 (mR M142 q 2) 2 (mI M142 q 4) → itE M0 z q w T A B D N C n p O P K Ab0 Be0 Cm0 M145)) := by
  obtain ⟨v1, v2, v3, v4, v5, v6, v7, v8, v9, v10, v11, v12⟩ := hv
  have ap := h.1.apart
  have qp := h.1.2.2.2.2.2.1.2.1
  have c3 := h.2.1.1.1
  have hN : n ≤ 16384 := by have := h.1.1.2.2.2.1.2.2.1; have := h.1.1.2.2.2.1.1.2.2.2.2.2.2.1; omega
  have nb1 : ∀ b, b ≠ p + 3 → b ≠ p + 4 → b ≠ p + 5 → mI M1 b = mI M b := fun b b1 b2 b3 => f1.2.2.2.2.2.2 b (fun y => by
    have y' : b = p + 3 ∨ b = p + 4 ∨ b = p + 5 := y
    omega)
  have fx1 : FI (txS q p O P) M M1 := f1.mono (fun b y => by
    have y' : b = p + 3 ∨ b = p + 4 ∨ b = p + 5 := y
    show (q ≤ b ∧ b ≤ q + 10) ∨ b = q + 21 ∨ b = q + 22 ∨ b = p ∨ (p + 3 ≤ b ∧ b ≤ p + 15) ∨ b = O ∨ b = P
    omega)
  have P1 := h.1.fi o1 fx1
  have A1 := (h.1.words fx1).1
  have e1 := nb1 q (by omega) (by omega) (by omega)
  have e2 := nb1 p (by omega) (by omega) (by omega)
  have e3 := nb1 (q + 1) (by omega) (by omega) (by omega)
  have tn : TN M1 (q + 1) A n (V + 1) F ns c := h.2.1.2.2.1.more A1 e3 (fun i _ _ => nb1 _ (by omega) (by omega) (by omega))
  have eO := nb1 O (by omega) (by omega) (by omega)
  have eP := nb1 P (by omega) (by omega) (by omega)
  have e6 : ∀ i, 6 ≤ i → i ≤ 15 → mI M1 (p + i) = mI M (p + i) := fun i h6 h15 => nb1 _ (by omega) (by omega) (by omega)
  have e5 : mI M1 (q + 6) = mI M (q + 6) := nb1 _ (by omega) (by omega) (by omega)
  rw [e1, e2, v7, c3]
  refine (s_RR_know (v := nw) (l2 := 5) (l3 := V) P1.1 tn v8 (by rw [A1]; exact v9) (i32s (by omega) (by omega)) (i32s (by omega) (by omega)) v11 (Or.inl ⟨rfl, by omega, by omega⟩)).mono (fun M136 k => ?_)
  obtain ⟨k1, k2, k3, k4, c', k5, -⟩ := k
  have nb2 : ∀ b, (b < q + 1 ∨ q + 1 + 9 < b) → mI M136 b = mI M1 b := fun b hb => k2.2.2.2.2.2.2 b (fun y => by have y' : q + 1 ≤ b ∧ b ≤ q + 1 + 9 := y; omega)
  have fx2 : FI (txS q p O P) M1 M136 := k2.mono (fun b y => Or.inl (by have y' : q + 1 ≤ b ∧ b ≤ q + 1 + 9 := y; omega))
  have P2 := P1.fi k1.1 fx2
  obtain ⟨t0, t1, t2, t3, t4, t5⟩ := P2.2.1
  have p2 : mI M136 p = mI M p := by rw [nb2 p (by omega), e2]
  have q2 : mI M136 q = mI M q := by rw [nb2 q (by omega), e1]
  rw [t3, p2, c3]
  refine ⟨k1.1, t0, P2.1.2.2.2.2.1.1, ⟨by omega, by omega⟩, fun M142 e142 => ?_⟩
  have f142 : FI (fun b => b = p) M136 M142 := by rw [e142]; exact FI.ui rfl
  have q3 : mI M142 q 4 = ((L : Nat) : Int) := by rw [f142.2.2.2.2.2.2 q (by omega), q2]; exact v10
  rw [f142.1, f142.2.2.1, t3, q3]
  refine ⟨P2.1.2.2.2.2.1.1, fun M145 e145 => ?_⟩
  have f145 : FI (fun b => b = p) M142 M145 := by rw [e145]; exact FI.ui rfl
  have ff := f142.trans f145
  have fx3 : FI (txS q p O P) M136 M145 := ff.mono (fun b y => Or.inr (Or.inr (Or.inr (Or.inl y))))
  have o145 : mOk M145 := by rw [e145]; exact mOk_UI (by rw [e142]; exact mOk_UI k1.1 ⟨by omega, by omega⟩) ⟨by omega, by omega⟩
  have nb3 : ∀ b, b ≠ p → mI M145 b = mI M136 b := fun b hb => ff.2.2.2.2.2.2 b hb
  have ip : ∀ i, mI M145 p i = if i = 2 then ((L : Nat) : Int) else if i = 3 then (V : Int) + 1 else mI M p i := fun i => by
    rw [mI_ui p i e145]
    by_cases y2 : i = 2
    · rw [if_pos ⟨rfl, y2⟩, if_pos y2]
    · rw [if_neg (fun u => y2 u.2), if_neg y2, mI_ui p i e142]
      by_cases y3 : i = 3
      · rw [if_pos ⟨rfl, y3⟩, if_pos y3]
      · rw [if_neg (fun u => y3 u.2), if_neg y3, p2]
  have rr : ∀ i, i ≠ 19 → mI M145 (q + 1) i = mI M (q + 1) i := fun i hi => by rw [nb3 _ (by omega), k3 i hi, e3]
  have P3 := P2.fi o145 fx3
  have h145 : TX M145 z q w T A B D N C n p O P K Ab Be Cm (V + 1) F ns sf ef c' cnt L := by
    obtain ⟨-, ⟨c1, c2, c3', c4⟩, hX⟩ := h
    refine ⟨P3, ⟨⟨by rw [ip, if_neg (by decide), if_pos rfl]; omega, by omega⟩, by rw [ip, if_neg (by decide), if_neg (by decide)]; exact c2, ?_, fun j => by rw [nb3 _ (by omega), show q + 6 = q + 1 + 5 by omega, k4 5 (by omega) (by omega), show q + 1 + 5 = q + 6 by omega, e5]; exact c4 j⟩, hX.var (fun y => by rw [rr 3 (by decide)]; exact y) (fun i i2 i3 => by rw [ip, if_neg i2, if_neg i3]) (fun i i6 i15 => by rw [nb3 _ (by omega), nb2 _ (by omega), e6 i i6 i15]) (fun i _ => ⟨by rw [nb3 O (by omega), nb2 O (by omega), eO], by rw [nb3 P (by omega), nb2 P (by omega), eP]⟩)⟩
    have A3 := (P2.words fx3).1
    unfold TN at k5 ⊢
    rw [A3, nb3 (q + 1) (by omega), nb3 (q + 1 + 6) (by omega), nb3 (q + 1 + 7) (by omega), nb3 (q + 1 + 8) (by omega), nb3 (q + 1 + 9) (by omega)]
    exact k5
  exact ⟨Ab, Be, Cm, V + 1, F, ns, sf, ef, c', cnt, L, a, h145, by rw [ip, if_pos rfl], by rw [rr 2 (by decide)]; exact v4, v5, by omega, by rw [rr 5 (by decide)]; exact v6, ((hf.trans (trF.fi fx1)).trans (trF.fi fx2)).trans (trF.fi fx3)⟩
theorem s_sv171 {l1 l2 l3 : Int} (i1 : i32 l1) (i2 : i32 l2) (i3 : i32 l3) (h : svS M0 z q w T A B D N C n p O P K Ab0 Be0 Cm0 V F ns sf ef c cnt L s a nw M) : h_TR_settleVar_171 G (d + 5) q l1 l2 l3 M (itE M0 z q w T A B D N C n p O P K Ab0 Be0 Cm0) := by
  obtain ⟨Ab, Be, Cm, h1, tr, hv, -, -⟩ := h
  obtain ⟨t0, t1, t2, t3, t4, t5⟩ := h1.1.2.1
  obtain ⟨k6, ⟨p4, p5, p6, -⟩, ⟨kp3, kp4, kp5, -⟩, ⟨np3, np4, np5, -⟩⟩ := h1.tab
  have c3 := h1.2.1.1.1
  refine k_TR_settleVar_171 h1.1.1.1 i1 i2 i3 ?_
  refine ⟨t0, by rw [t1]; exact h1.1.1.2.1.1, fun y0 => ?_, fun y0 => ?_⟩
  · rw [t1] at y0
    have hV : V < 12 := by
      by_cases u : 12 ≤ V
      · exact absurd y0 (hv.2.2.2.2.2.2.2.2.2.2.2 u)
      · omega
    rw [t3, p4, np3, c3, Int.toNat_natCast]
    refine ⟨k6, kp3, by omega, fun M122 e122 => ?_⟩
    have f122 : FI (fun b => b = p + 3) M M122 := by rw [e122]; exact FI.ui rfl
    rw [f122.1, f122.2.1, f122.2.2.1, t3, p5, np4, f122.2.2.2.2.2.2 p (by omega), c3, Int.toNat_natCast]
    refine ⟨k6, kp4, by omega, fun M127 e127 => ?_⟩
    have f127 : FI (fun b => b = p + 4) M122 M127 := by rw [e127]; exact FI.ui rfl
    rw [f127.1, f127.2.1, f127.2.2.1, f122.1, f122.2.1, f122.2.2.1, t3, p6, np5, f127.2.2.2.2.2.2 p (by omega), f122.2.2.2.2.2.2 p (by omega), c3, Int.toNat_natCast]
    refine ⟨k6, kp5, by omega, fun M132 e132 => ?_⟩
    have f132 : FI (fun b => b = p + 5) M127 M132 := by rw [e132]; exact FI.ui rfl
    have ff : FI (fun b => b = p + 3 ∨ b = p + 4 ∨ b = p + 5) M M132 := ((f122.mono (fun _ y => Or.inl y)).trans (f127.mono (fun _ y => Or.inr (Or.inl y)))).trans (f132.mono (fun _ y => Or.inr (Or.inr y)))
    have o132 : mOk M132 := by rw [e132]; exact mOk_UI (by rw [e127]; exact mOk_UI (by rw [e122]; exact mOk_UI h1.1.1.1 i1) i2) i3
    rw [ff.1, ff.2.2.1, t1, t3]
    exact ⟨k6, h1.1.1.2.1.1, s_sv_fin h1 hv hV tr o132 ff⟩
  · obtain ⟨v1, v2, v3, v4, v5, v6, -⟩ := hv
    exact ⟨Ab, Be, Cm, V, F, ns, sf, ef, c, cnt, s, a, h1.any (fun _ => v2), v1, v4, v5, v3, v6, tr⟩
theorem s_sv106 {l1 l2 : Int} (hF : FMs G) (i1 : i32 l1) (i2 : i32 l2) (h : svS M0 z q w T A B D N C n p O P K Ab0 Be0 Cm0 V F ns sf ef c cnt L s a nw M) : h_TR_settleVar_106 G (d + 5) q l1 l2 M (itE M0 z q w T A B D N C n p O P K Ab0 Be0 Cm0) := by
  obtain ⟨ok, t0, t1, k4, t2, k5, kA, nA, t6, k22, n22⟩ := h.pl
  refine k_TR_settleVar_106 ok i1 i2 ?_
  refine ⟨t0, by rw [t1]; exact k4, fun y => ⟨fun _ => ?_, fun _ => s_sv171 i1 i2 i1 h⟩, fun y => ?_⟩
  · rw [t1, t6, n22]
    exact ⟨k22, ⟨by omega, by omega⟩, (s_sv_note (i32s (by omega) (by omega)) (ok _ _).1 h).mono (fun M' k => ⟨k.1, s_sv171 i1 i2 i1 k.2⟩)⟩
  · rw [t1] at y
    have y0 : mI M (q + 1) 3 = 0 := Classical.byContradiction (fun u => y (Or.inl u))
    have y7 : mI M q 7 ≠ 0 := fun u => y (Or.inr u)
    have r2 : rvR M q O P F ns L s 2 := by
      obtain ⟨_, _, _, -, -, -, -, r7⟩ := h
      exact r7 y7
    refine (s_sv_works (k := 2) hF (by omega) (i32s (by omega) (by omega)) h y0 r2).mono (fun x79 M78 k => ?_)
    obtain ⟨i79, o78, h78, q78⟩ := k
    obtain ⟨-, u0, u1, w4, u2, w5, uA, vA, u6, w22, m22⟩ := h78.pl
    refine ⟨i79, o78, fun _ => ⟨u0, by rw [u2]; exact w5, by rw [u2]; exact uA, ⟨by omega, by rw [u2]; exact vA⟩⟩, fun v86 e86 => ?_⟩
    have i86 : i32 v86 := by
      rw [e86]
      split
      · exact i1
      · exact (o78 _ _).1
    refine ⟨i86, fun _ => ⟨u0, by rw [u6]; exact w22, ⟨by omega, by rw [u6, m22]; omega⟩, by rw [u1]; exact w4, ?_⟩, fun _ => s_sv171 i1 i2 i86 h78⟩
    rw [u1]
    exact (s_sv_note (i32s (by omega) (by omega)) (o78 _ _).1 h78).mono (fun M' k => ⟨k.1, s_sv171 i1 i2 i86 k.2⟩)
theorem s_sv76 {l1 l2 : Int} (hF : FMs G) (i1 : i32 l1) (i2 : i32 l2) (h : svS M0 z q w T A B D N C n p O P K Ab0 Be0 Cm0 V F ns sf ef c cnt L s a nw M) : h_TR_settleVar_76 G (d + 5) q l1 l2 M (itE M0 z q w T A B D N C n p O P K Ab0 Be0 Cm0) := by
  obtain ⟨ok, t0, t1, k4, t2, k5, kA, nA, t6, k22, n22⟩ := h.pl
  refine k_TR_settleVar_76w ok i1 i2 ⟨trivial, fun _ => ?_, fun _ => s_sv106 hF i1 i2 h⟩
  rw [t1, t6, n22]
  exact ⟨t0, k22, ⟨by omega, by omega⟩, k4, (s_sv_note (i32s (by omega) (by omega)) (ok _ _).1 h).mono (fun M' k => ⟨k.1, s_sv106 hF i1 i2 k.2⟩)⟩
theorem s_TR_settleVar (hF : FMs G) (h : TX M z q w T A B D N C n p O P K Ab Be Cm V F ns sf ef c cnt L) (hv : vrS M q A n p L s a nw V) (h8 : mI M q 8 = 0 → rvR M q O P F ns L s 0 ∧ rvR M q O P F ns L s 1) (h7 : mI M q 7 ≠ 0 → rvR M q O P F ns L s 2) : Cv G y_TR_settleVar (d + 6) [vr q] M (itE M z q w T A B D N C n p O P K Ab Be Cm) := by
  have hs : svS M z q w T A B D N C n p O P K Ab Be Cm V F ns sf ef c cnt L s a nw M := ⟨Ab, Be, Cm, h, trF.refl, hv, h8, h7⟩
  obtain ⟨ok, t0, t1, k4, t2, k5, kA, nA, t6, k22, n22⟩ := hs.pl
  refine k_TR_settleVar ok ?_
  refine ⟨t0, by rw [t1]; exact k4, fun y => ?_, fun _ => s_sv106 hF (i32s (by omega) (by omega)) (i32s (by omega) (by omega)) hs⟩
  rw [t1] at y
  refine (s_sv_works (k := 0) hF (by omega) (i32s (by omega) (by omega)) hs y.1 (h8 y.2).1).mono (fun x8 M7 k => ?_)
  obtain ⟨i8, o7, h7', q7⟩ := k
  obtain ⟨-, u0, u1, w4, u2, w5, uA, vA, u6, w22, m22⟩ := h7'.pl
  refine ⟨i8, o7, fun _ => ⟨u0, by rw [u2]; exact w5, by rw [u2]; exact uA, ⟨by omega, by rw [u2]; exact vA⟩⟩, fun v15 e15 => ?_⟩
  have i15 : i32 v15 := by
    rw [e15]
    split
    · exact i32s (by omega) (by omega)
    · exact (o7 _ _).1
  refine ⟨u0, by rw [u1]; exact w4, fun y3 => ?_, fun _ => s_sv76 hF i15 i15 h7'⟩
  rw [u1] at y3
  have r1 : rvR M7 q O P F ns L s 1 := by
    obtain ⟨_, _, _, -, -, -, r8, -⟩ := h7'
    exact (r8 (by rw [q7]; exact y.2)).2
  refine (s_sv_works (k := 1) hF (by omega) (i32s (by omega) (by omega)) h7' y3 r1).mono (fun x23 M22 k => ?_)
  obtain ⟨i23, o22, h22, q22⟩ := k
  obtain ⟨-, a0, a1, b4, a2, b5, aA, bA, a6, b22, c22⟩ := h22.pl
  refine ⟨i23, o22, fun _ => s_sv76 hF i15 i15 h22, fun _ => ⟨a0, by rw [a2]; exact b5, by rw [a2]; exact aA, ⟨by omega, by rw [a2]; exact bA⟩, s_sv76 hF i15 (o22 _ _).1 h22⟩⟩
end TRK
