section
/-! The class's reader of texts, exactly: settleNamed. -/
section TXL
variable {G : mG} {d z q w T A B D N C n p O P K Ab Be Cm V F c L cnt a nw k e k0 e0 : Nat} {M0 M M' M1 M2 : mM} {ns : Nat → Int} {sf ef : Nat → Nat} {H : Nat → Nat} {W pl nq E : Nat → Int} {Cf : Nat → Int × Int} {sm : Nat → Nat → Prop} {s s' : st9} {ft : Int × Int} {v : vrs}
/-- the class's tables are the pure state s -/
def CSm (M : mM) (q p : Nat) (s : st9) : Prop := CT M (q + 1) p s.1 ∧ mI M p 3 = (s.2.1.1 : Int) ∧ mI M p 7 = (s.2.1.2.1 : Int) ∧ mI M p 12 = (s.2.1.2.2.1 : Int) ∧ (mI M p 11 = -1 ↔ s.2.1.2.2.2 = 0) ∧ s.1.length = s.2.1.1 + s.2.1.2.1 ∧ vcn s.1 = s.2.1.1 ∧ rcn s.1 = s.2.1.2.1
/-- an item has been settled, exactly -/
def itZ (q p : Nat) (s' : st9) (M' : mM) : Prop := FT M' (q + 1) s'.2.2 ∧ (s'.2.2.1 = 0 → CSm M' q p s')
theorem itZ.bad (h : FT M' (q + 1) s'.2.2) (h1 : s'.2.2.1 ≠ 0) : itZ q p s' M' := ⟨h, fun z => absurd z h1⟩
/-- a const or formula has been settled: the program's tables -/
def snZ (p O P F L e : Nat) (l1 : Int) (v : vrs) (M M' : mM) : Prop := snD p O P F M M' ∧ (l1 = 4 → (mI M' (p + 6) F = v.2.1 ∧ mI M' (p + 7) F = v.2.2) ∧ mI M' p 2 = ((L : Nat) : Int)) ∧ (l1 = 7 → mI M' (p + 8) F = ((L : Nat) : Int) ∧ mI M' p 2 = ((e + 1 : Nat) : Int)) ∧ mI M' p 11 = mI M p 11
theorem l47x {l : Int} (h : l = 4 ∨ l = 7) : i32 l := ⟨by omega, by omega⟩
theorem x_TR_settleNamed {l1 : Int} (hF : FMx G) (h4 : l1 = 4 ∨ l1 = 7) (h : TX M z q w T A B D N C n p O P K Ab Be Cm V F ns sf ef c cnt L) (y60 : 60 ≤ F → mI M (q + 1) 3 ≠ 0) (cd : Cod M O P (vco l1 V) F (nco l1 ns) L e H 1) (hp : mI M p 2 = ((e + 1 : Nat) : Int)) (ha : mI M (q + 1) 2 = ((a : Nat) : Int)) (han : a ≤ n) (hLa : e + 1 ≤ a) (hd : mI M (q + 1) 5 = 0) (hn : mI M q 3 = ((nw : Nat) : Int) ∧ nw < n ∧ mI M A nw = 2) (h8 : mI M q 8 = 0 ∨ mI M q 8 = 1) (h21 : mI M (q + 21) 0 = ((L : Nat) : Int)) (wt : WTq M T A B D n W pl nq sm) (hnw : nw = k0 + 1) (cs : CSm M q p s) (ec : ECq M (q + 1) p n W nq sm s.1 c (if l1 = 4 then 1 else 0) E Cf) (hkd : mI M q 8 = kdq W E 0 (k0 + 3) e0) (eo : Eo W 6 (k0 + 3) e0) (e0n : e0 ≤ n) (hc : Cd W Cf pl (mI M O) (mI M P) 0 0 0 (k0 + 3) e0 L e) (oe : mI M O e = 0) (hFT : FT M (q + 1) ft) (hfl : ft.1 = 0 → (fl W E pl 0 (k0 + 3) e0).1 = 0) (hv : v = vlq W (cv9 W nq sm s.1) pl 0 0 (k0 + 3) e0) (gv : ft.1 = 0 → l1 = 4 → vgd (kdq W E 0 (k0 + 3) e0) v) (flt : ft.1 ≠ 0 → s'.2.2 = ft) (es1 : ft.1 = 0 → l1 = 4 → v.1 ≠ 0 → s'.2.2 = (v.1, v.2.1)) (es2 : ft.1 = 0 → (l1 = 4 → v.1 = 0) → s' = (s.1 ++ [(k0 + 1, (if l1 = 4 then 1 else 2), kdq W E 0 (k0 + 3) e0, if l1 = 4 then v else (0, 0, 1))], (s.2.1.1, s.2.1.2.1 + 1, s.2.1.2.2), (0, 0))) : Cv G y_TR_settleNamed (d + 6) [vr q, vi l1] M (fun M' => itE M z q w T A B D N C n p O P K Ab Be Cm M' ∧ itZ q p s' M' ∧ mI M' (q + 1) 2 = ((a : Nat) : Int) ∧ (s'.2.2.1 = 0 → snZ p O P F L e l1 v M M')) := by
  obtain ⟨ct, j3, j7, j12, j11, jl, jv, jr⟩ := id cs
  have hl : s.1.length = c := by
    have y1 := ct.1
    have y2 := h.2.1.2.2.1.1
    omega
  have eF : s.2.1.2.1 = F := by
    have := h.2.1.2.1.1
    omega
  have eV : s.2.1.1 = V := by
    have := h.2.1.1.1
    omega
  have V12 := h.2.1.1.2
  have h9 : ∀ i, i < c → mI M (q + 1 + 9) i = 0 ∨ mI M (q + 1 + 9) i = 1 := fun i hi => (h.2.1.2.2.1.2.2 i hi).2.2
  have fin : ∀ {e9 : nm9} {Mx M9 : mM}, ft.1 = 0 → (∀ i, i ≠ 3 → i ≠ 4 → mI Mx (q + 1) i = mI M (q + 1) i) → mI Mx (q + 1) 3 = 0 → mI Mx p = mI M p → s' = (s.1 ++ [e9], (s.2.1.1, s.2.1.2.1 + 1, s.2.1.2.2), (0, 0)) → e9.2.1 ≠ 3 → snY Mx q p F s.1 e9 M9 → itZ q p s' M9 := fun {e9 Mx M9} _ _ g2 g3 g4 g6 g5 => by
    obtain ⟨y1, y2, y3⟩ := g5
    rw [g4]
    refine ⟨⟨by rw [y2 3 (by decide)]; exact g2, fun u => absurd rfl u⟩, fun _ => ⟨y1, ?_, ?_, ?_, ?_, ?_, ?_, ?_⟩⟩
    · rw [y3 3 (by decide), if_neg (by decide), g3]; exact j3
    · rw [y3 7 (by decide), if_pos rfl]
      show (F : Int) + 1 = ((s.2.1.2.1 + 1 : Nat) : Int)
      omega
    · rw [y3 12 (by decide), if_neg (by decide), g3]; exact j12
    · rw [y3 11 (by decide), if_neg (by decide), g3]; exact j11
    · show (s.1 ++ [e9]).length = s.2.1.1 + (s.2.1.2.1 + 1)
      rw [List.length_append, jl]
      simp
      omega
    · show vcn (s.1 ++ [e9]) = s.2.1.1
      rw [vcn_app]
      show vcn s.1 + (0 + (if e9.2.1 = 3 then 1 else 0)) = _
      rw [if_neg g6]
      omega
    · show rcn (s.1 ++ [e9]) = s.2.1.2.1 + 1
      rw [rcn_app]
      show rcn s.1 + (0 + (if e9.2.1 = 3 then 0 else 1)) = _
      rw [if_neg g6]
      omega
  have hLe : L ≤ e := cd.2.2.2.2.2
  obtain ⟨t0, t1, t2, t3, t4, t5⟩ := h.1.2.1
  obtain ⟨s1, s2, s3, s4⟩ := h.1.2.2.1
  obtain ⟨k6, ⟨-, -, -, p8, p9, p10, -⟩, ⟨-, -, -, kp6, kp7, kp8, -⟩, ⟨-, -, -, np6, np7, np8, -⟩⟩ := h.tab
  have f7 := h.2.1.2.1.1
  have hN : n ≤ 16384 := by have := h.1.1.2.2.2.1.2.2.1; have := h.1.1.2.2.2.1.1.2.2.2.2.2.2.1; omega
  have q21p : q + 21 ≠ p ∧ q + 21 ≠ p + 8 := by have := h.1.2.2.2.2.2.1.2.1; clear h4 y60 h8 j11 es1 es2 gv hfl flt; omega
  refine k_TR_settleNamed h.1.1.1 (l47x h4) ?_
  refine ⟨t0, by rw [t1]; exact h.1.1.2.1.1, fun y0 => ⟨fun y4 => ?_, fun y4 => ?_⟩, fun y0 => ?_⟩
  · rw [t1] at y0
    have h60 : F < 60 := by
      by_cases u : 60 ≤ F
      · exact absurd y0 (y60 u)
      · omega
    subst y4
    have cd' : Cod M O P 0 F (nsc ns) L e H 1 := cd
    have f0 : ft.1 = 0 := by rw [← hFT.1]; exact y0
    have ec' : ECq M (q + 1) p n W nq sm s.1 c 1 E Cf := ec
    have ev : vlq W (cvn W nq sm s.1 n) pl 0 0 (k0 + 3) e0 = v := by
      rw [hv]
      refine vl_ci0 (fun k _ k2 => ?_) eo
      unfold cvn
      rw [if_pos (by omega)]
    refine (x_TR_worksOut (k := 0) (l2 := 0) hF (by first | decide | omega) (i32s (by decide) (by decide)) h y0 h21 hp (by omega) (lf_ex wt ec' ct hl h9) eo (hfl f0) hc (Nat.lt_succ_self _) oe (fun z => absurd rfl z)).mono (fun x9 M8 k => ?_)
    obtain ⟨⟨Ab1, Be1, Cm1, h1, fa, hab, hr, ⟨q0, q1, q21, qp, qO, qP, qA⟩, k8⟩, wv, ct8, -⟩ := k
    rw [ev] at wv
    have tr := wu_tr (p := p) (O := O) (P := P) fa hab hr
    have i9 : i32 x9 := m_b32 (k8.imp (fun u => u) (fun u => u.1))
    have a8 : mI M8 (q + 1) 2 = ((a : Nat) : Int) := by rw [q1 2 (by decide) (by decide)]; exact ha
    have d8 : mI M8 (q + 1) 5 = 0 := by rw [q1 5 (by decide) (by decide)]; exact hd
    refine ⟨i9, h1.1.1.1, fun y => ?_, fun y => ?_⟩
    · refine ⟨⟨Ab1, Be1, Cm1, V, F, ns, sf, ef, c, cnt, e + 1, a, h1.any (fun _ => Nat.le_succ_of_le hLe), by rw [qp]; exact hp, a8, han, hLa, d8, tr⟩, ?_⟩
      obtain ⟨-, w2, w3⟩ := wv.resolve_right (fun u => by rw [y] at u; exact absurd u.1 (by decide))
      have v1 : v.1 ≠ 0 := fun u => w2 (by unfold wuf; rw [if_pos rfl, if_neg (fun z => z u)])
      have ew : wuf 0 v (pl (k0 + 3)) = (v.1, v.2.1) := by unfold wuf; rw [if_pos rfl, if_pos v1]
      rw [ew] at w3
      have es := es1 f0 rfl v1
      exact ⟨itZ.bad (by rw [es]; exact w3) (by rw [es]; exact v1), a8, fun t => absurd t (by rw [es]; exact v1)⟩
    · have wp := wu_p h fa
      obtain ⟨-, u2, u3⟩ := k8.resolve_left y
      obtain ⟨-, w2, w3, w4, w5⟩ := wv.resolve_left (fun u => y u.1)
      have mk := h1.1.2.2.2.1.2.1
      have pA : mI M8 Ab1 0 = v.2.1 := by rw [← mk.2.2.1]; exact w5.1
      have pB : mI M8 Be1 0 = v.2.2 := by rw [← mk.2.2.2.1]; exact w5.2
      have k88 : mI M8 q 8 = kdq W E 0 (k0 + 3) e0 := by rw [q0]; exact hkd
      have es := es2 f0 (fun _ => w3)
      rw [if_pos rfl, if_pos rfl, ← hnw, ← k88] at es
      obtain ⟨v1, v2, v3, v4⟩ := x_sn_const (G := G) (d := d) (v := v) (nms := s.1) (Q := fun M' => itE M z q w T A B D N C n p O P K Ab Be Cm M' ∧ itZ q p s' M' ∧ mI M' (q + 1) 2 = ((a : Nat) : Int) ∧ (s'.2.2.1 = 0 → snZ p O P F L e 4 v M M')) (by rw [jr, eF]) (fun M9 g => ⟨g.1, fin f0 q1 u2 qp es (by simp) g.2.1, by rw [g.2.1.2.1 2 (by decide)]; exact a8, fun _ => ⟨⟨fun i i9 i15 => by rw [g.2.2.1.1 i i9 i15, wp i i15], fun i i3 i5 => by rw [g.2.2.1.2.1 i i3 i5, wp i (by omega)], fun j hj => by rw [(g.2.2.1.2.2.1 j hj).1, (g.2.2.1.2.2.1 j hj).2.1, (g.2.2.1.2.2.1 j hj).2.2, wp 6 (by omega), wp 7 (by omega), wp 8 (by omega)]; exact ⟨rfl, rfl, rfl⟩, by rw [g.2.2.1.2.2.2.1, qO], by rw [g.2.2.1.2.2.2.2, qP]⟩, fun _ => g.2.2.2, fun t => absurd t (by decide), by rw [g.2.1.2.2 11 (by decide), if_neg (by decide), qp]⟩⟩) h1 u2 h60 u3 ⟨by rw [q0]; exact hn.1, hn.2.1, by rw [qA]; exact hn.2.2⟩ (by rw [q0]; exact h8) (by rw [q21]; exact h21) (show L ≤ a by omega) a8 han d8 tr (ct8 _ ct) hl (by omega) ⟨w3, pA, pB⟩ (by rw [k88]; exact gv f0 rfl)
      refine ⟨v1, v2, v3, fun M16 e16 => ?_⟩
      obtain ⟨w1, w2, w3, w4, w5, w6⟩ := v4 M16 e16
      exact ⟨w1, w2, w3, w4, w5, fun M23 e23 => ⟨fun _ => w6 M23 e23, fun u => absurd rfl u⟩⟩
  · have y7 : l1 = 7 := h4.resolve_left y4
    subst y7
    rw [t1] at y0
    have h60 : F < 60 := by
      by_cases u : 60 ≤ F
      · exact absurd y0 (y60 u)
      · omega
    have cd' : Cod M O P V F ns L e H 1 := cd
    rw [t3, f7, Int.toNat_natCast]
    refine ⟨k6, ⟨by omega, by omega⟩, fun M50 e50 => ?_⟩
    have f50 : FI (fun b => b = p) M M50 := by rw [e50]; exact FI.ui rfl
    rw [f50.1, f50.2.1, f50.2.2.1, t3, t4, p10, np8, s3, f50.2.2.2.2.2.2 _ q21p.1, h21]
    refine ⟨k6, s1, ⟨by omega, by omega⟩, kp8, by omega, fun M57 e57 => ⟨fun u => absurd u (by decide), fun _ => ?_⟩⟩
    have f0 : ft.1 = 0 := by rw [← hFT.1]; exact y0
    have es := es2 f0 (fun u => absurd u (by decide))
    rw [if_neg (by decide), if_neg (by decide), ← hnw, ← hkd] at es
    exact sn_mono (x_sn_formula (nms := s.1) h y0 h60 cd' hn h8 hp hLa ha han hd e50 e57 ct hl (by omega) (by rw [jr, eF])) (fun M9 g => ⟨g.1, fin f0 (fun _ _ _ => rfl) y0 rfl es (by simp) g.2.1, by rw [g.2.1.2.1 2 (by decide)]; exact ha, fun _ => ⟨g.2.2.1, fun t => absurd t (by decide), fun _ => g.2.2.2, by rw [g.2.1.2.2 11 (by decide), if_neg (by decide)]⟩⟩)
  · refine ⟨⟨Ab, Be, Cm, V, F, ns, sf, ef, c, cnt, e + 1, a, h.any (fun _ => Nat.le_succ_of_le hLe), hp, ha, han, hLa, hd, trF.refl⟩, ?_⟩
    rw [t1] at y0
    have f0 : ft.1 ≠ 0 := by rw [← hFT.1]; exact y0
    have es := flt f0
    exact ⟨itZ.bad (by rw [es]; exact hFT) (by rw [es]; exact f0), ha, fun t => absurd t (by rw [es]; exact f0)⟩
end TXL
end
section
/-! The class's reader of texts, exactly: a var is settled. -/
section TXM
variable {G : mG} {d z q w T A B D N C n p O P K Ab Be Cm V F c sl L cnt a nw k x y x2 y2 Ab0 Be0 Cm0 : Nat} {M0 M M' M1 M2 Mb : mM} {ns : Nat → Int} {sf ef : Nat → Nat} {W pl nq E : Nat → Int} {Cf : Nat → Int × Int} {cv : Nat → vrs} {sm : Nat → Nat → Prop} {nms : List nm9} {s s' : st9} {ft ff : Int × Int} {tr : Int}
theorem fst9_n {a b : Int × Int} (h : a.1 ≠ 0) : fst9 a b = a := if_neg h
theorem fst9_zr {a b : Int × Int} (h : a.1 = 0) : fst9 a b = b := if_pos h
theorem Lfo.cg {k : Nat} (h : Lfo M p W E cv Cf k) (h6 : mI M' (p + 6) = mI M (p + 6)) (h7 : mI M' (p + 7) = mI M (p + 7)) : Lfo M' p W E cv Cf k := by
  unfold Lfo at h ⊢
  rw [h6, h7]
  exact h
/-- what stays while a var is settled -/
def svK (q p O P : Nat) (nms : List nm9) (M0 M : mM) : Prop := CT M (q + 1) p nms ∧ mI M q = mI M0 q ∧ (mI M (q + 21) = mI M0 (q + 21) ∧ mI M (q + 22) = mI M0 (q + 22)) ∧ (mI M p = mI M0 p ∧ mI M O = mI M0 O ∧ mI M P = mI M0 P) ∧ mI M (p + 6) = mI M0 (p + 6) ∧ mI M (p + 7) = mI M0 (p + 7) ∧ ∀ i, 3 ≤ i → i ≤ 15 → mI M (p + i) = mI M0 (p + i)
/-- the item's rule k: its words x to y, without a fault, of kind tr -/
def rwE (W pl : Nat → Int) (cv : Nat → vrs) (q p O P sl k x y : Nat) (tr : Int) (M : mM) : Prop := ∃ (E : Nat → Int) (Cf : Nat → Int × Int), rvQz W pl Cf q O P k x y sl M ∧ (∀ k, (W k = 1 ∨ W k = 2 ∨ W k = 12 ∨ W k = 13) → (W k = 1 → E k ≠ -1) → Lfo M p W E cv Cf k) ∧ Eo W 6 x y ∧ (fl W E pl 0 x y).1 = 0 ∧ kdq W E 0 x y = tr
theorem rwE.gd (h : rwE W pl cv q p O P sl k x y tr M) : vgd tr (vlq W cv pl 0 0 x y) := by
  obtain ⟨E, Cf, -, h2, h3, h4, h5⟩ := h
  rw [← h5]
  exact vl_ok (fun k a b => (h2 k a b).1) _ 0 x y (Nat.le_refl _) (Or.inl ⟨rfl, h3⟩) h4 (fun u => absurd u (by decide)) 0
theorem x_sv_note {x y : Int} (hx : i32 x) (x0 : x ≠ 0) (hy : i32 y) (h : svS M0 z q w T A B D N C n p O P K Ab0 Be0 Cm0 V F ns sf ef c cnt L sl a nw M) (kk : svK q p O P nms Mb M) (hf : FT M (q + 1) ft) : Cv G y_RR_note d [vr (q + 1), vi x, vi y] M (fun M' => mOk M' ∧ svS M0 z q w T A B D N C n p O P K Ab0 Be0 Cm0 V F ns sf ef c cnt L sl a nw M' ∧ svK q p O P nms Mb M' ∧ FT M' (q + 1) (fst9 ft (x, y))) := by
  obtain ⟨Ab, Be, Cm, h1, tr, ⟨v1, v2, v3, v4, v5, v6, v7, v8, v9, v10, v11, v12⟩, r8, r7⟩ := h
  obtain ⟨⟨np0, np1, -, -⟩, ⟨nO0, nO1, -, -, -⟩, nP0, nP1, -, -, -⟩ := h1.1.ne
  obtain ⟨q01, q10, q210, q211, -, -, q220, q221, -⟩ := q_ne q
  have pq1 : ∀ i, i ≤ 15 → p + i ≠ q + 1 := fun i hi => by
    have := h1.1.2.2.2.2.2.1.2.1
    omega
  have p61 : p + 6 ≠ q + 1 ∧ p + 7 ≠ q + 1 := by
    have := h1.1.2.2.2.2.2.1.2.1
    omega
  refine (x_tx_note hx x0 hy h1).mono (fun M' k => ?_)
  obtain ⟨o1, h2, x2, -, r2, b2, fq⟩ := k
  have e0 := b2 q q01
  have cg : ∀ {k : Nat}, rvR M q O P F ns L sl k → rvR M' q O P F ns L sl k := fun hr => hr.cg (by rw [b2 _ q211]) (fun i _ => ⟨by rw [b2 O nO1], by rw [b2 P nP1]⟩) (Nat.le_refl _)
  refine ⟨o1, ⟨Ab, Be, Cm, h2, tr.trans (trF.fi x2.1), ⟨by rw [b2 p np1]; exact v1, v2, v3, by rw [r2 2 (by decide) (by decide)]; exact v4, v5, by rw [r2 5 (by decide) (by decide)]; exact v6, by rw [e0]; exact v7, v8, by rw [(h1.1.words x2.1).1]; exact v9, by rw [e0]; exact v10, by rw [e0]; exact v11, fun u => x2.2.2.1 (v12 u)⟩, fun u => ?_, fun u => ?_⟩, ?_, fq ft hf⟩
  · rw [e0] at u
    exact ⟨cg (r8 u).1, cg (r8 u).2⟩
  · rw [e0] at u
    exact cg (r7 u)
  · obtain ⟨ct, g0, ⟨g21, g22⟩, ⟨gp, gO, gP⟩, g6, g7, g8⟩ := kk
    exact ⟨ct.tx x2.2, by rw [e0]; exact g0, ⟨by rw [b2 _ q211]; exact g21, by rw [b2 _ q221]; exact g22⟩, ⟨by rw [b2 p np1]; exact gp, by rw [b2 O nO1]; exact gO, by rw [b2 P nP1]; exact gP⟩, by rw [b2 _ p61.1]; exact g6, by rw [b2 _ p61.2]; exact g7, fun i i3 i15 => by rw [b2 _ (pq1 i i15)]; exact g8 i i3 i15⟩
theorem x_sv_works (hF : FMx G) (hk : k < 3) (h : svS M0 z q w T A B D N C n p O P K Ab0 Be0 Cm0 V F ns sf ef c cnt L sl a nw M) (kk : svK q p O P nms Mb M) (hf : FT M (q + 1) (0, 0)) (hr : rwE W pl cv q p O P sl k x y tr Mb) : Ci G y_TR_worksOut (d + 5) [vr q, vi k, vi 1] M (fun r M' => i32 r ∧ mOk M' ∧ svS M0 z q w T A B D N C n p O P K Ab0 Be0 Cm0 V F ns sf ef c cnt L sl a nw M' ∧ svK q p O P nms Mb M' ∧ ((r = 0 ∧ (wh9 (vlq W cv pl 0 0 x y) (pl x)).1 ≠ 0 ∧ FT M' (q + 1) (wh9 (vlq W cv pl 0 0 x y) (pl x))) ∨ (r = 1 ∧ (wh9 (vlq W cv pl 0 0 x y) (pl x)).1 = 0 ∧ (vlq W cv pl 0 0 x y).1 = 0 ∧ FT M' (q + 1) (0, 0) ∧ mI M' (mR M' (q + 11) 6) 0 = (vlq W cv pl 0 0 x y).2.1))) := by
  obtain ⟨Ab, Be, Cm, h1, trf, ⟨v1, v2, v3, v4, v5, v6, v7, v8, v9, v10, v11, v12⟩, r8, r7⟩ := h
  obtain ⟨ct, e0, ⟨e21, e22⟩, ⟨ep, eO, eP⟩, e6, e7, e8⟩ := kk
  obtain ⟨E, Cf, ⟨sr, er, u1, u2, u3, u4, u5⟩, hlf, eo, hfl, -⟩ := hr
  have h0 : mI M (q + 1) 3 = 0 := hf.1
  refine (x_TR_worksOut (k := k) (l2 := 1) (cv := cv) hF hk (i32s (by omega) (by omega)) h1 h0 (by rw [e21]; exact u1) v1 (Nat.le_trans v3 v5) (fun j i1 i2 => (hlf j i1 i2).cg e6 e7) eo hfl (by rw [eO, eP]; exact u3) u4 (by rw [eO]; exact u2) (fun _ => by rw [e22]; exact u5)).mono (fun r M' k => ?_)
  obtain ⟨⟨Ab1, Be1, Cm1, h2, fa, hab, hrm, ⟨q0, q1, q21, qp, qO, qP, qA⟩, k8⟩, wv, ctk, w22, w6, w7⟩ := k
  have i9 : i32 r := m_b32 (k8.imp (fun u => u) (fun u => u.1))
  have cg : ∀ {k : Nat}, rvR M q O P F ns L sl k → rvR M' q O P F ns L sl k := fun hr => hr.cg (by rw [q21]) (fun i _ => ⟨by rw [qO], by rw [qP]⟩) (Nat.le_refl _)
  have v12' : 12 ≤ V → mI M' (q + 1) 3 ≠ 0 := fun u => absurd h0 (v12 u)
  refine ⟨i9, h2.1.1.1, ⟨Ab1, Be1, Cm1, h2, trf.trans (wu_tr fa hab hrm), ⟨by rw [qp]; exact v1, v2, v3, by rw [q1 2 (by decide) (by decide)]; exact v4, v5, by rw [q1 5 (by decide) (by decide)]; exact v6, by rw [q0]; exact v7, v8, by rw [qA]; exact v9, by rw [q0]; exact v10, by rw [q0]; exact v11, v12'⟩, fun u => ?_, fun u => ?_⟩, ⟨ctk _ ct, by rw [q0]; exact e0, ⟨by rw [q21]; exact e21, by rw [w22]; exact e22⟩, ⟨by rw [qp]; exact ep, by rw [qO]; exact eO, by rw [qP]; exact eP⟩, by rw [w6]; exact e6, by rw [w7]; exact e7, fun i i3 i15 => by rw [wu_p h1 fa i i15]; exact e8 i i3 i15⟩, ?_⟩
  · rw [q0] at u
    exact ⟨cg (r8 u).1, cg (r8 u).2⟩
  · rw [q0] at u
    exact cg (r7 u)
  · have ew : wuf 1 (vlq W cv pl 0 0 x y) (pl x) = wh9 (vlq W cv pl 0 0 x y) (pl x) := by
      unfold wuf
      rw [if_neg (by decide)]
    unfold wuV at wv
    rw [ew] at wv
    exact wv.imp (fun u => u) (fun u => ⟨u.1, u.2.1, u.2.2.1, u.2.2.2.1, u.2.2.2.2.1⟩)
/-- the program's tables with var number V -/
def svD (p O P V L : Nat) (l1 l2 l3 : Int) (M M' : mM) : Prop := (∀ i, 6 ≤ i → i ≤ 15 → mI M' (p + i) = mI M (p + i)) ∧ (∀ j, mI M' (p + 3) j = (if j = V then l1 else mI M (p + 3) j) ∧ mI M' (p + 4) j = (if j = V then l2 else mI M (p + 4) j) ∧ mI M' (p + 5) j = (if j = V then l3 else mI M (p + 5) j)) ∧ (mI M' O = mI M O ∧ mI M' P = mI M P) ∧ mI M' p 2 = ((L : Nat) : Int) ∧ mI M' p 11 = mI M p 11
/-- a var has been added -/
def svY (M : mM) (q p V : Nat) (nms : List nm9) (e9 : nm9) (M' : mM) : Prop := CT M' (q + 1) p (nms ++ [e9]) ∧ (∀ i, i ≠ 19 → mI M' (q + 1) i = mI M (q + 1) i) ∧ ∀ i, i ≠ 2 → mI M' p i = if i = 3 then (V : Int) + 1 else mI M p i
theorem x_sv_fin {l1 l2 l3 : Int} (hvc : vcn nms = V) (wv : ∀ j, mI M1 (p + 3) j = (if j = V then l1 else mI M (p + 3) j) ∧ mI M1 (p + 4) j = (if j = V then l2 else mI M (p + 4) j) ∧ mI M1 (p + 5) j = (if j = V then l3 else mI M (p + 5) j)) (h : TX M z q w T A B D N C n p O P K Ab Be Cm V F ns sf ef c cnt L) (hv : vrS M q A n p L sl a nw V) (hV : V < 12) (hf : trF M0 q p O P Ab0 Be0 Cm0 M Ab Be Cm) (o1 : mOk M1) (f1 : FI (fun b => b = p + 3 ∨ b = p + 4 ∨ b = p + 5) M M1) (ct : CT M (q + 1) p nms) (hl : nms.length = c) (hc72 : c < 72) : Cv G y_RR_know d [vr (q + 1), vi (mI M1 q 3), vi 5, vi (mI M1 p 3), vi (mI M1 q 8)] M1 (fun M136 => mOk M136 ∧ (mK M136 q = 3 ∧ mK M136 (mR M136 q 2) = 6 ∧ i32 ((mI M136 (mR M136 q 2) 3) + 1) ∧ ∀ M142, M142 = mUI M136 (mR M136 q 2) 3 ((mI M136 (mR M136 q 2) 3) + 1) → mK M142 (mR M142 q 2) = 6 ∧ ∀ M145, M145 = mUI M142 (mR M142 q 2) 2 (mI M142 q 4) → (itE M0 z q w T A B D N C n p O P K Ab0 Be0 Cm0 M145 ∧ svY M q p V nms (nw, 3, mI M q 8, (0, 0, 1)) M145 ∧ svD p O P V L l1 l2 l3 M M145))) := by
  obtain ⟨v1, v2, v3, v4, v5, v6, v7, v8, v9, v10, v11, v12⟩ := hv
  have ap := h.1.apart
  have qp := h.1.2.2.2.2.2.1.2.1
  have c3 := h.2.1.1.1
  have hN : n ≤ 16384 := by have := h.1.1.2.2.2.1.2.2.1; have := h.1.1.2.2.2.1.1.2.2.2.2.2.2.1; omega
  have nb1 : ∀ b, b ≠ p + 3 → b ≠ p + 4 → b ≠ p + 5 → mI M1 b = mI M b := fun b b1 b2 b3 => f1.2.2.2.2.2.2 b (fun y => by
    have y' : b = p + 3 ∨ b = p + 4 ∨ b = p + 5 := y
    omega)
  have fx1 : FI (txS q p O P) M M1 := f1.mono (fun b y => by
    have y' : b = p + 3 ∨ b = p + 4 ∨ b = p + 5 := y
    show (q ≤ b ∧ b ≤ q + 10) ∨ b = q + 21 ∨ b = q + 22 ∨ b = p ∨ (p + 3 ≤ b ∧ b ≤ p + 15) ∨ b = O ∨ b = P
    omega)
  have P1 := h.1.fi o1 fx1
  have A1 := (h.1.words fx1).1
  have e1 := nb1 q (by omega) (by omega) (by omega)
  have e2 := nb1 p (by first | (have h1 := qp; omega) | omega) (by first | (have h1 := qp; omega) | omega) (by first | (have h1 := qp; omega) | omega)
  have e3 := nb1 (q + 1) (by omega) (by omega) (by omega)
  have tn : TN M1 (q + 1) A n (V + 1) F ns c := h.2.1.2.2.1.more A1 e3 (fun i _ _ => nb1 _ (by omega) (by omega) (by omega))
  have eO := nb1 O (by first | (have h1 := ap.2.2.2.1; have h2 := ap.2.1; omega) | omega) (by first | (have h1 := ap.2.2.2.1; have h2 := ap.2.1; omega) | omega) (by first | (have h1 := ap.2.2.2.1; have h2 := ap.2.1; omega) | omega)
  have eP := nb1 P (by first | (have h1 := ap.2.2.2.2.1; have h2 := ap.2.2.1; omega) | omega) (by first | (have h1 := ap.2.2.2.2.1; have h2 := ap.2.2.1; omega) | omega) (by first | (have h1 := ap.2.2.2.2.1; have h2 := ap.2.2.1; omega) | omega)
  have e6 : ∀ i, 6 ≤ i → i ≤ 15 → mI M1 (p + i) = mI M (p + i) := fun i h6 h15 => nb1 _ (by omega) (by omega) (by omega)
  have e5 : mI M1 (q + 6) = mI M (q + 6) := nb1 _ (by omega) (by omega) (by omega)
  have ct1 : CT M1 (q + 1) p nms := ct.cg (by rw [e3]) (nb1 _ (by omega) (by omega) (by omega)) (nb1 _ (by omega) (by omega) (by omega)) (nb1 _ (by omega) (by omega) (by omega)) (nb1 _ (by omega) (by omega) (by omega)) (e6 6 (by omega) (by omega)) (e6 7 (by omega) (by omega))
  rw [e1, e2, v7, c3]
  refine (x_RR_know (v := nw) (l2 := 5) (l3 := V) P1.1 tn v8 (by rw [A1]; exact v9) (i32s (by omega) (by omega)) (i32s (by omega) (by omega)) v11 (Or.inl ⟨rfl, by omega, by omega⟩)).mono (fun M136 k => ?_)
  obtain ⟨k1, k2, k3, k4, ⟨c', k5, -⟩, k6⟩ := k
  have nb2 : ∀ b, (b < q + 1 ∨ q + 1 + 9 < b) → mI M136 b = mI M1 b := fun b hb => k2.2.2.2.2.2.2 b (fun y => by have y' : q + 1 ≤ b ∧ b ≤ q + 1 + 9 := y; omega)
  have fx2 : FI (txS q p O P) M1 M136 := k2.mono (fun b y => Or.inl (by have y' : q + 1 ≤ b ∧ b ≤ q + 1 + 9 := y; omega))
  have P2 := P1.fi k1.1 fx2
  obtain ⟨t0, t1, t2, t3, t4, t5⟩ := P2.2.1
  have p2 : mI M136 p = mI M p := by rw [nb2 p (by first | (have h1 := qp; omega) | omega), e2]
  have q2 : mI M136 q = mI M q := by rw [nb2 q (by omega), e1]
  rw [t3, p2, c3]
  refine ⟨k1.1, t0, P2.1.2.2.2.2.1.1, ⟨by omega, by omega⟩, fun M142 e142 => ?_⟩
  have f142 : FI (fun b => b = p) M136 M142 := by rw [e142]; exact FI.ui rfl
  have q3 : mI M142 q 4 = ((L : Nat) : Int) := by rw [f142.2.2.2.2.2.2 q (by omega), q2]; exact v10
  rw [f142.1, f142.2.2.1, t3, q3]
  refine ⟨P2.1.2.2.2.2.1.1, fun M145 e145 => ?_⟩
  have f145 : FI (fun b => b = p) M142 M145 := by rw [e145]; exact FI.ui rfl
  have ff := f142.trans f145
  have fx3 : FI (txS q p O P) M136 M145 := ff.mono (fun b y => Or.inr (Or.inr (Or.inr (Or.inl y))))
  have o145 : mOk M145 := by rw [e145]; exact mOk_UI (by rw [e142]; exact mOk_UI k1.1 ⟨by omega, by omega⟩) ⟨by omega, by omega⟩
  have nb3 : ∀ b, b ≠ p → mI M145 b = mI M136 b := fun b hb => ff.2.2.2.2.2.2 b hb
  have ip : ∀ i, mI M145 p i = if i = 2 then ((L : Nat) : Int) else if i = 3 then (V : Int) + 1 else mI M p i := fun i => by
    rw [mI_ui p i e145]
    by_cases y2 : i = 2
    · rw [if_pos ⟨rfl, y2⟩, if_pos y2]
    · rw [if_neg (fun u => y2 u.2), if_neg y2, mI_ui p i e142]
      by_cases y3 : i = 3
      · rw [if_pos ⟨rfl, y3⟩, if_pos y3]
      · rw [if_neg (fun u => y3 u.2), if_neg y3, p2]
  have rr : ∀ i, i ≠ 19 → mI M145 (q + 1) i = mI M (q + 1) i := fun i hi => by rw [nb3 _ (by omega), k3 i hi, e3]
  have P3 := P2.fi o145 fx3
  have h145 : TX M145 z q w T A B D N C n p O P K Ab Be Cm (V + 1) F ns sf ef c' cnt L := by
    obtain ⟨-, ⟨c1, c2, c3', c4⟩, hX⟩ := h
    refine ⟨P3, ⟨⟨by rw [ip, if_neg (by decide), if_pos rfl]; omega, by omega⟩, by rw [ip, if_neg (by decide), if_neg (by decide)]; exact c2, ?_, fun j => by rw [nb3 _ (by omega), show q + 6 = q + 1 + 5 by omega, k4 5 (by omega) (by omega), show q + 1 + 5 = q + 6 by omega, e5]; exact c4 j⟩, hX.var (fun y => by rw [rr 3 (by decide)]; exact y) (fun i i2 i3 => by rw [ip, if_neg i2, if_neg i3]) (fun i i6 i15 => by rw [nb3 _ (by omega), nb2 _ (by omega), e6 i i6 i15]) (fun i _ => ⟨by rw [nb3 O (by first | (have h1 := ap.2.2.2.1; have h2 := ap.2.1; omega) | omega), nb2 O (by first | (have h1 := ap.2.2.2.1; have h2 := ap.2.1; omega) | omega), eO], by rw [nb3 P (by first | (have h1 := ap.2.2.2.2.1; have h2 := ap.2.2.1; omega) | omega), nb2 P (by first | (have h1 := ap.2.2.2.2.1; have h2 := ap.2.2.1; omega) | omega), eP]⟩)⟩
    have A3 := (P2.words fx3).1
    unfold TN at k5 ⊢
    rw [A3, nb3 (q + 1) (by omega), nb3 (q + 1 + 6) (by omega), nb3 (q + 1 + 7) (by omega), nb3 (q + 1 + 8) (by omega), nb3 (q + 1 + 9) (by omega)]
    exact k5
  have ct2 : CT M136 (q + 1) p (nms ++ [(nw, 3, mI M q 8, (0, 0, 1))]) := ct1.kn hl (k6 hc72) (nb2 _ (by omega)) (nb2 _ (by omega)) rfl rfl ⟨by simp, by simp⟩ rfl (fun u => absurd u (by simp)) (fun _ j e' hj he => by
    have jc : j < c := by rw [← hl]; exact (List.getElem?_eq_some_iff.mp hj).1
    have s5 : mI M1 (q + 1 + 7) j = 5 := by rw [(ct1.2 j e' hj).2.1, he]; rfl
    obtain ⟨-, u, -⟩ := h.2.1.2.2.1.2.2 j jc
    have s5' : mI M (q + 1 + 7) j = 5 := by rw [← s5, nb1 _ (by omega) (by omega) (by omega)]
    rw [nb1 (q + 1 + 8) (by omega) (by omega) (by omega)]
    clear k6 ct ct1
    rcases u with u | u
    · omega
    · rcases u.1 with v | v <;> rw [s5'] at v <;> exact absurd v (by decide)) (by show ((V : Nat) : Int) = if (3 : Nat) = 3 then _ else _; rw [if_pos rfl, hvc])
  have ct3 : CT M145 (q + 1) p (nms ++ [(nw, 3, mI M q 8, (0, 0, 1))]) := ct2.cg (by rw [nb3 _ (by omega)]) (nb3 _ (by omega)) (nb3 _ (by omega)) (nb3 _ (by omega)) (nb3 _ (by omega)) (nb3 _ (by omega)) (nb3 _ (by omega))
  have nbp : ∀ i, 3 ≤ i → i ≤ 15 → mI M145 (p + i) = mI M1 (p + i) := fun i i3 i15 => by rw [nb3 _ (by omega), nb2 _ (by omega)]
  refine ⟨?_, ⟨ct3, rr, fun i hi => by rw [ip, if_neg hi]⟩, fun i i6 i15 => by rw [nbp i (by omega) i15, e6 i i6 i15], fun j => by rw [nbp 3 (by omega) (by omega), nbp 4 (by omega) (by omega), nbp 5 (by omega) (by omega)]; exact wv j, ⟨by rw [nb3 O (by first | (have h1 := ap.2.2.2.1; have h2 := ap.2.1; omega) | omega), nb2 O (by first | (have h1 := ap.2.2.2.1; have h2 := ap.2.1; omega) | omega), eO], by rw [nb3 P (by first | (have h1 := ap.2.2.2.2.1; have h2 := ap.2.2.1; omega) | omega), nb2 P (by first | (have h1 := ap.2.2.2.2.1; have h2 := ap.2.2.1; omega) | omega), eP]⟩, by rw [ip, if_pos rfl], by rw [ip, if_neg (by decide), if_neg (by decide)]⟩
  exact ⟨Ab, Be, Cm, V + 1, F, ns, sf, ef, c', cnt, L, a, h145, by rw [ip, if_pos rfl], by rw [rr 2 (by decide)]; exact v4, v5, by omega, by rw [rr 5 (by decide)]; exact v6, ((hf.trans (trF.fi fx1)).trans (trF.fi fx2)).trans (trF.fi fx3)⟩
end TXM
end
