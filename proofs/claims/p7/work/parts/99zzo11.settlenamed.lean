section
section
/-! The class's reader of texts, exactly: settleNamed. -/
section TXL
variable {G : mG} {d z q w T A B D N C n p O P K Ab Be Cm V F c L cnt a nw k e k0 e0 : Nat} {M0 M M' M1 M2 : mM} {ns : Nat → Int} {sf ef : Nat → Nat} {H : Nat → Nat} {W pl nq E : Nat → Int} {Cf : Nat → Int × Int} {sm : Nat → Nat → Prop} {s s' : st9} {ft : Int × Int} {v : vrs}
/-- the class's tables are the pure state s -/
def CSm (M : mM) (q p : Nat) (s : st9) : Prop := CT M (q + 1) p s.1 ∧ mI M p 3 = (s.2.1.1 : Int) ∧ mI M p 7 = (s.2.1.2.1 : Int) ∧ mI M p 12 = (s.2.1.2.2.1 : Int) ∧ (mI M p 11 = -1 ↔ s.2.1.2.2.2 = 0) ∧ s.1.length = s.2.1.1 + s.2.1.2.1 ∧ vcn s.1 = s.2.1.1 ∧ rcn s.1 = s.2.1.2.1
/-- an item has been settled, exactly -/
def itZ (q p : Nat) (s' : st9) (M' : mM) : Prop := FT M' (q + 1) s'.2.2 ∧ (s'.2.2.1 = 0 → CSm M' q p s')
theorem itZ.bad (h : FT M' (q + 1) s'.2.2) (h1 : s'.2.2.1 ≠ 0) : itZ q p s' M' := ⟨h, fun z => absurd z h1⟩
/-- a const or formula has been settled: the program's tables -/
def snZ (p O P F L e : Nat) (l1 : Int) (v : vrs) (M M' : mM) : Prop := snD p O P F M M' ∧ (l1 = 4 → (mI M' (p + 6) F = v.2.1 ∧ mI M' (p + 7) F = v.2.2) ∧ mI M' p 2 = ((L : Nat) : Int)) ∧ (l1 = 7 → mI M' (p + 8) F = ((L : Nat) : Int) ∧ mI M' p 2 = ((e + 1 : Nat) : Int)) ∧ mI M' p 11 = mI M p 11
theorem l47x {l : Int} (h : l = 4 ∨ l = 7) : i32 l := ⟨by omega, by omega⟩
theorem x_TR_settleNamed {l1 : Int} (hF : FMx G) (h4 : l1 = 4 ∨ l1 = 7) (h : TX M z q w T A B D N C n p O P K Ab Be Cm V F ns sf ef c cnt L) (y60 : 60 ≤ F → mI M (q + 1) 3 ≠ 0) (cd : Cod M O P (vco l1 V) F (nco l1 ns) L e H 1) (hp : mI M p 2 = ((e + 1 : Nat) : Int)) (ha : mI M (q + 1) 2 = ((a : Nat) : Int)) (han : a ≤ n) (hLa : e + 1 ≤ a) (hd : mI M (q + 1) 5 = 0) (hn : mI M q 3 = ((nw : Nat) : Int) ∧ nw < n ∧ mI M A nw = 2) (h8 : mI M q 8 = 0 ∨ mI M q 8 = 1) (h21 : mI M (q + 21) 0 = ((L : Nat) : Int)) (wt : WTq M T A B D n W pl nq sm) (hnw : nw = k0 + 1) (cs : CSm M q p s) (ec : ECq M (q + 1) p n W nq sm s.1 c (if l1 = 4 then 1 else 0) E Cf) (hkd : mI M q 8 = kdq W E 0 (k0 + 3) e0) (eo : Eo W 6 (k0 + 3) e0) (e0n : e0 ≤ n) (hc : Cd W Cf pl (mI M O) (mI M P) 0 0 0 (k0 + 3) e0 L e) (oe : mI M O e = 0) (hFT : FT M (q + 1) ft) (hfl : ft.1 = 0 → (fl W E pl 0 (k0 + 3) e0).1 = 0) (hv : v = vlq W (cv9 W nq sm s.1) pl 0 0 (k0 + 3) e0) (gv : ft.1 = 0 → l1 = 4 → vgd (kdq W E 0 (k0 + 3) e0) v) (flt : ft.1 ≠ 0 → s'.2.2 = ft) (es1 : ft.1 = 0 → l1 = 4 → v.1 ≠ 0 → s'.2.2 = (v.1, v.2.1)) (es2 : ft.1 = 0 → (l1 = 4 → v.1 = 0) → s' = (s.1 ++ [(k0 + 1, (if l1 = 4 then 1 else 2), kdq W E 0 (k0 + 3) e0, if l1 = 4 then v else (0, 0, 1))], (s.2.1.1, s.2.1.2.1 + 1, s.2.1.2.2), (0, 0))) : Cv G y_TR_settleNamed (d + 6) [vr q, vi l1] M (fun M' => itE M z q w T A B D N C n p O P K Ab Be Cm M' ∧ itZ q p s' M' ∧ mI M' (q + 1) 2 = ((a : Nat) : Int) ∧ (s'.2.2.1 = 0 → snZ p O P F L e l1 v M M')) := by
  obtain ⟨ct, j3, j7, j12, j11, jl, jv, jr⟩ := id cs
  have hl : s.1.length = c := by
    have y1 := ct.1
    have y2 := h.2.1.2.2.1.1
    omega
  have eF : s.2.1.2.1 = F := by
    have := h.2.1.2.1.1
    omega
  have eV : s.2.1.1 = V := by
    have := h.2.1.1.1
    omega
  have V12 := h.2.1.1.2
  have h9 : ∀ i, i < c → mI M (q + 1 + 9) i = 0 ∨ mI M (q + 1 + 9) i = 1 := fun i hi => (h.2.1.2.2.1.2.2 i hi).2.2
  have fin : ∀ {e9 : nm9} {Mx M9 : mM}, ft.1 = 0 → (∀ i, i ≠ 3 → i ≠ 4 → mI Mx (q + 1) i = mI M (q + 1) i) → mI Mx (q + 1) 3 = 0 → mI Mx p = mI M p → s' = (s.1 ++ [e9], (s.2.1.1, s.2.1.2.1 + 1, s.2.1.2.2), (0, 0)) → e9.2.1 ≠ 3 → snY Mx q p F s.1 e9 M9 → itZ q p s' M9 := fun {e9 Mx M9} _ _ g2 g3 g4 g6 g5 => by
    obtain ⟨y1, y2, y3⟩ := g5
    rw [g4]
    refine ⟨⟨by rw [y2 3 (by decide)]; exact g2, fun u => absurd rfl u⟩, fun _ => ⟨y1, ?_, ?_, ?_, ?_, ?_, ?_, ?_⟩⟩
    · rw [y3 3 (by decide), if_neg (by decide), g3]; exact j3
    · rw [y3 7 (by decide), if_pos rfl]
      show (F : Int) + 1 = ((s.2.1.2.1 + 1 : Nat) : Int)
      omega
    · rw [y3 12 (by decide), if_neg (by decide), g3]; exact j12
    · rw [y3 11 (by decide), if_neg (by decide), g3]; exact j11
    · show (s.1 ++ [e9]).length = s.2.1.1 + (s.2.1.2.1 + 1)
      rw [List.length_append, jl]
      simp
      omega
    · show vcn (s.1 ++ [e9]) = s.2.1.1
      rw [vcn_app]
      show vcn s.1 + (0 + (if e9.2.1 = 3 then 1 else 0)) = _
      rw [if_neg g6]
      omega
    · show rcn (s.1 ++ [e9]) = s.2.1.2.1 + 1
      rw [rcn_app]
      show rcn s.1 + (0 + (if e9.2.1 = 3 then 0 else 1)) = _
      rw [if_neg g6]
      omega
  have hLe : L ≤ e := cd.2.2.2.2.2
  obtain ⟨t0, t1, t2, t3, t4, t5⟩ := h.1.2.1
  obtain ⟨s1, s2, s3, s4⟩ := h.1.2.2.1
  obtain ⟨k6, ⟨-, -, -, p8, p9, p10, -⟩, ⟨-, -, -, kp6, kp7, kp8, -⟩, ⟨-, -, -, np6, np7, np8, -⟩⟩ := h.tab
  have f7 := h.2.1.2.1.1
  have hN : n ≤ 16384 := by have := h.1.1.2.2.2.1.2.2.1; have := h.1.1.2.2.2.1.1.2.2.2.2.2.2.1; omega
  have q21p : q + 21 ≠ p ∧ q + 21 ≠ p + 8 := by have := h.1.2.2.2.2.2.1.2.1; clear h4 y60 h8 j11 es1 es2 gv hfl flt; omega
  refine k_TR_settleNamed h.1.1.1 (l47x h4) ?_
  refine ⟨t0, by rw [t1]; exact h.1.1.2.1.1, fun y0 => ⟨fun y4 => ?_, fun y4 => ?_⟩, fun y0 => ?_⟩
  · rw [t1] at y0
    have h60 : F < 60 := by
      by_cases u : 60 ≤ F
      · exact absurd y0 (y60 u)
      · omega
    subst y4
    have cd' : Cod M O P 0 F (nsc ns) L e H 1 := cd
    have f0 : ft.1 = 0 := by rw [← hFT.1]; exact y0
    have ec' : ECq M (q + 1) p n W nq sm s.1 c 1 E Cf := ec
    have ev : vlq W (cvn W nq sm s.1 n) pl 0 0 (k0 + 3) e0 = v := by
      rw [hv]
      refine vl_ci0 (fun k _ k2 => ?_) eo
      unfold cvn
      rw [if_pos (by omega)]
    refine (x_TR_worksOut (k := 0) (l2 := 0) hF (by first | decide | omega) (i32s (by decide) (by decide)) h y0 h21 hp (by omega) (lf_ex wt ec' ct hl h9) eo (hfl f0) hc (Nat.lt_succ_self _) oe (fun z => absurd rfl z)).mono (fun x9 M8 k => ?_)
    obtain ⟨⟨Ab1, Be1, Cm1, h1, fa, hab, hr, ⟨q0, q1, q21, qp, qO, qP, qA⟩, k8⟩, wv, ct8, -⟩ := k
    rw [ev] at wv
    have tr := wu_tr (p := p) (O := O) (P := P) fa hab hr
    have i9 : i32 x9 := m_b32 (k8.imp (fun u => u) (fun u => u.1))
    have a8 : mI M8 (q + 1) 2 = ((a : Nat) : Int) := by rw [q1 2 (by decide) (by decide)]; exact ha
    have d8 : mI M8 (q + 1) 5 = 0 := by rw [q1 5 (by decide) (by decide)]; exact hd
    refine ⟨i9, h1.1.1.1, fun y => ?_, fun y => ?_⟩
    · refine ⟨⟨Ab1, Be1, Cm1, V, F, ns, sf, ef, c, cnt, e + 1, a, h1.any (fun _ => Nat.le_succ_of_le hLe), by rw [qp]; exact hp, a8, han, hLa, d8, tr⟩, ?_⟩
      obtain ⟨-, w2, w3⟩ := wv.resolve_right (fun u => by rw [y] at u; exact absurd u.1 (by decide))
      have v1 : v.1 ≠ 0 := fun u => w2 (by unfold wuf; rw [if_pos rfl, if_neg (fun z => z u)])
      have ew : wuf 0 v (pl (k0 + 3)) = (v.1, v.2.1) := by unfold wuf; rw [if_pos rfl, if_pos v1]
      rw [ew] at w3
      have es := es1 f0 rfl v1
      exact ⟨itZ.bad (by rw [es]; exact w3) (by rw [es]; exact v1), a8, fun t => absurd t (by rw [es]; exact v1)⟩
    · have wp := wu_p h fa
      obtain ⟨-, u2, u3⟩ := k8.resolve_left y
      obtain ⟨-, w2, w3, w4, w5⟩ := wv.resolve_left (fun u => y u.1)
      have mk := h1.1.2.2.2.1.2.1
      have pA : mI M8 Ab1 0 = v.2.1 := by rw [← mk.2.2.1]; exact w5.1
      have pB : mI M8 Be1 0 = v.2.2 := by rw [← mk.2.2.2.1]; exact w5.2
      have k88 : mI M8 q 8 = kdq W E 0 (k0 + 3) e0 := by rw [q0]; exact hkd
      have es := es2 f0 (fun _ => w3)
      rw [if_pos rfl, if_pos rfl, ← hnw, ← k88] at es
      obtain ⟨v1, v2, v3, v4⟩ := x_sn_const (G := G) (d := d) (v := v) (nms := s.1) (Q := fun M' => itE M z q w T A B D N C n p O P K Ab Be Cm M' ∧ itZ q p s' M' ∧ mI M' (q + 1) 2 = ((a : Nat) : Int) ∧ (s'.2.2.1 = 0 → snZ p O P F L e 4 v M M')) (by rw [jr, eF]) (fun M9 g => ⟨g.1, fin f0 q1 u2 qp es (by simp) g.2.1, by rw [g.2.1.2.1 2 (by decide)]; exact a8, fun _ => ⟨⟨fun i i9 i15 => by rw [g.2.2.1.1 i i9 i15, wp i i15], fun i i3 i5 => by rw [g.2.2.1.2.1 i i3 i5, wp i (by omega)], fun j hj => by rw [(g.2.2.1.2.2.1 j hj).1, (g.2.2.1.2.2.1 j hj).2.1, (g.2.2.1.2.2.1 j hj).2.2, wp 6 (by omega), wp 7 (by omega), wp 8 (by omega)]; exact ⟨rfl, rfl, rfl⟩, by rw [g.2.2.1.2.2.2.1, qO], by rw [g.2.2.1.2.2.2.2, qP]⟩, fun _ => g.2.2.2, fun t => absurd t (by decide), by rw [g.2.1.2.2 11 (by decide), if_neg (by decide), qp]⟩⟩) h1 u2 h60 u3 ⟨by rw [q0]; exact hn.1, hn.2.1, by rw [qA]; exact hn.2.2⟩ (by rw [q0]; exact h8) (by rw [q21]; exact h21) (show L ≤ a by omega) a8 han d8 tr (ct8 _ ct) hl (by omega) ⟨w3, pA, pB⟩ (by rw [k88]; exact gv f0 rfl)
      refine ⟨v1, v2, v3, fun M16 e16 => ?_⟩
      obtain ⟨w1, w2, w3, w4, w5, w6⟩ := v4 M16 e16
      exact ⟨w1, w2, w3, w4, w5, fun M23 e23 => ⟨fun _ => w6 M23 e23, fun u => absurd rfl u⟩⟩
  · have y7 : l1 = 7 := h4.resolve_left y4
    subst y7
    rw [t1] at y0
    have h60 : F < 60 := by
      by_cases u : 60 ≤ F
      · exact absurd y0 (y60 u)
      · omega
    have cd' : Cod M O P V F ns L e H 1 := cd
    rw [t3, f7, Int.toNat_natCast]
    refine ⟨k6, ⟨by omega, by omega⟩, fun M50 e50 => ?_⟩
    have f50 : FI (fun b => b = p) M M50 := by rw [e50]; exact FI.ui rfl
    rw [f50.1, f50.2.1, f50.2.2.1, t3, t4, p10, np8, s3, f50.2.2.2.2.2.2 _ q21p.1, h21]
    refine ⟨k6, s1, ⟨by omega, by omega⟩, kp8, by omega, fun M57 e57 => ⟨fun u => absurd u (by decide), fun _ => ?_⟩⟩
    have f0 : ft.1 = 0 := by rw [← hFT.1]; exact y0
    have es := es2 f0 (fun u => absurd u (by decide))
    rw [if_neg (by decide), if_neg (by decide), ← hnw, ← hkd] at es
    exact sn_mono (x_sn_formula (nms := s.1) h y0 h60 cd' hn h8 hp hLa ha han hd e50 e57 ct hl (by omega) (by rw [jr, eF])) (fun M9 g => ⟨g.1, fin f0 (fun _ _ _ => rfl) y0 rfl es (by simp) g.2.1, by rw [g.2.1.2.1 2 (by decide)]; exact ha, fun _ => ⟨g.2.2.1, fun t => absurd t (by decide), fun _ => g.2.2.2, by rw [g.2.1.2.2 11 (by decide), if_neg (by decide)]⟩⟩)
  · refine ⟨⟨Ab, Be, Cm, V, F, ns, sf, ef, c, cnt, e + 1, a, h.any (fun _ => Nat.le_succ_of_le hLe), hp, ha, han, hLa, hd, trF.refl⟩, ?_⟩
    rw [t1] at y0
    have f0 : ft.1 ≠ 0 := by rw [← hFT.1]; exact y0
    have es := flt f0
    exact ⟨itZ.bad (by rw [es]; exact hFT) (by rw [es]; exact f0), ha, fun t => absurd t (by rw [es]; exact f0)⟩
end TXL
end
section
/-! The class's reader of texts, exactly: a var is settled. -/
section TXM
variable {G : mG} {d z q w T A B D N C n p O P K Ab Be Cm V F c sl L cnt a nw k x y x2 y2 Ab0 Be0 Cm0 : Nat} {M0 M M' M1 M2 Mb : mM} {ns : Nat → Int} {sf ef : Nat → Nat} {W pl nq E : Nat → Int} {Cf : Nat → Int × Int} {cv : Nat → vrs} {sm : Nat → Nat → Prop} {nms : List nm9} {s s' : st9} {ft ff : Int × Int} {tr : Int}
theorem fst9_n {a b : Int × Int} (h : a.1 ≠ 0) : fst9 a b = a := if_neg h
theorem fst9_zr {a b : Int × Int} (h : a.1 = 0) : fst9 a b = b := if_pos h
theorem Lfo.cg {k : Nat} (h : Lfo M p W E cv Cf k) (h6 : mI M' (p + 6) = mI M (p + 6)) (h7 : mI M' (p + 7) = mI M (p + 7)) : Lfo M' p W E cv Cf k := by
  unfold Lfo at h ⊢
  rw [h6, h7]
  exact h
/-- what stays while a var is settled -/
def svK (q p O P : Nat) (nms : List nm9) (M0 M : mM) : Prop := CT M (q + 1) p nms ∧ mI M q = mI M0 q ∧ (mI M (q + 21) = mI M0 (q + 21) ∧ mI M (q + 22) = mI M0 (q + 22)) ∧ (mI M p = mI M0 p ∧ mI M O = mI M0 O ∧ mI M P = mI M0 P) ∧ mI M (p + 6) = mI M0 (p + 6) ∧ mI M (p + 7) = mI M0 (p + 7) ∧ ∀ i, 3 ≤ i → i ≤ 15 → mI M (p + i) = mI M0 (p + i)
/-- the item's rule k: its words x to y, without a fault, of kind tr -/
def rwE (W pl : Nat → Int) (cv : Nat → vrs) (q p O P sl k x y : Nat) (tr : Int) (M : mM) : Prop := ∃ (E : Nat → Int) (Cf : Nat → Int × Int), rvQz W pl Cf q O P k x y sl M ∧ (∀ k, (W k = 1 ∨ W k = 2 ∨ W k = 12 ∨ W k = 13) → (W k = 1 → E k ≠ -1) → Lfo M p W E cv Cf k) ∧ Eo W 6 x y ∧ (fl W E pl 0 x y).1 = 0 ∧ kdq W E 0 x y = tr
theorem rwE.gd (h : rwE W pl cv q p O P sl k x y tr M) : vgd tr (vlq W cv pl 0 0 x y) := by
  obtain ⟨E, Cf, -, h2, h3, h4, h5⟩ := h
  rw [← h5]
  exact vl_ok (fun k a b => (h2 k a b).1) _ 0 x y (Nat.le_refl _) (Or.inl ⟨rfl, h3⟩) h4 (fun u => absurd u (by decide)) 0
theorem x_sv_note {x y : Int} (hx : i32 x) (x0 : x ≠ 0) (hy : i32 y) (h : svS M0 z q w T A B D N C n p O P K Ab0 Be0 Cm0 V F ns sf ef c cnt L sl a nw M) (kk : svK q p O P nms Mb M) (hf : FT M (q + 1) ft) : Cv G y_RR_note d [vr (q + 1), vi x, vi y] M (fun M' => mOk M' ∧ svS M0 z q w T A B D N C n p O P K Ab0 Be0 Cm0 V F ns sf ef c cnt L sl a nw M' ∧ svK q p O P nms Mb M' ∧ FT M' (q + 1) (fst9 ft (x, y))) := by
  obtain ⟨Ab, Be, Cm, h1, tr, ⟨v1, v2, v3, v4, v5, v6, v7, v8, v9, v10, v11, v12⟩, r8, r7⟩ := h
  obtain ⟨⟨np0, np1, -, -⟩, ⟨nO0, nO1, -, -, -⟩, nP0, nP1, -, -, -⟩ := h1.1.ne
  obtain ⟨q01, q10, q210, q211, -, -, q220, q221, -⟩ := q_ne q
  have pq1 : ∀ i, i ≤ 15 → p + i ≠ q + 1 := fun i hi => by
    have := h1.1.2.2.2.2.2.1.2.1
    omega
  have p61 : p + 6 ≠ q + 1 ∧ p + 7 ≠ q + 1 := by
    have := h1.1.2.2.2.2.2.1.2.1
    omega
  refine (x_tx_note hx x0 hy h1).mono (fun M' k => ?_)
  obtain ⟨o1, h2, x2, -, r2, b2, fq⟩ := k
  have e0 := b2 q q01
  have cg : ∀ {k : Nat}, rvR M q O P F ns L sl k → rvR M' q O P F ns L sl k := fun hr => hr.cg (by rw [b2 _ q211]) (fun i _ => ⟨by rw [b2 O nO1], by rw [b2 P nP1]⟩) (Nat.le_refl _)
  refine ⟨o1, ⟨Ab, Be, Cm, h2, tr.trans (trF.fi x2.1), ⟨by rw [b2 p np1]; exact v1, v2, v3, by rw [r2 2 (by decide) (by decide)]; exact v4, v5, by rw [r2 5 (by decide) (by decide)]; exact v6, by rw [e0]; exact v7, v8, by rw [(h1.1.words x2.1).1]; exact v9, by rw [e0]; exact v10, by rw [e0]; exact v11, fun u => x2.2.2.1 (v12 u)⟩, fun u => ?_, fun u => ?_⟩, ?_, fq ft hf⟩
  · rw [e0] at u
    exact ⟨cg (r8 u).1, cg (r8 u).2⟩
  · rw [e0] at u
    exact cg (r7 u)
  · obtain ⟨ct, g0, ⟨g21, g22⟩, ⟨gp, gO, gP⟩, g6, g7, g8⟩ := kk
    exact ⟨ct.tx x2.2, by rw [e0]; exact g0, ⟨by rw [b2 _ q211]; exact g21, by rw [b2 _ q221]; exact g22⟩, ⟨by rw [b2 p np1]; exact gp, by rw [b2 O nO1]; exact gO, by rw [b2 P nP1]; exact gP⟩, by rw [b2 _ p61.1]; exact g6, by rw [b2 _ p61.2]; exact g7, fun i i3 i15 => by rw [b2 _ (pq1 i i15)]; exact g8 i i3 i15⟩
theorem x_sv_works (hF : FMx G) (hk : k < 3) (h : svS M0 z q w T A B D N C n p O P K Ab0 Be0 Cm0 V F ns sf ef c cnt L sl a nw M) (kk : svK q p O P nms Mb M) (hf : FT M (q + 1) (0, 0)) (hr : rwE W pl cv q p O P sl k x y tr Mb) : Ci G y_TR_worksOut (d + 5) [vr q, vi k, vi 1] M (fun r M' => i32 r ∧ mOk M' ∧ svS M0 z q w T A B D N C n p O P K Ab0 Be0 Cm0 V F ns sf ef c cnt L sl a nw M' ∧ svK q p O P nms Mb M' ∧ ((r = 0 ∧ (wh9 (vlq W cv pl 0 0 x y) (pl x)).1 ≠ 0 ∧ FT M' (q + 1) (wh9 (vlq W cv pl 0 0 x y) (pl x))) ∨ (r = 1 ∧ (wh9 (vlq W cv pl 0 0 x y) (pl x)).1 = 0 ∧ (vlq W cv pl 0 0 x y).1 = 0 ∧ FT M' (q + 1) (0, 0) ∧ mI M' (mR M' (q + 11) 6) 0 = (vlq W cv pl 0 0 x y).2.1))) := by
  obtain ⟨Ab, Be, Cm, h1, trf, ⟨v1, v2, v3, v4, v5, v6, v7, v8, v9, v10, v11, v12⟩, r8, r7⟩ := h
  obtain ⟨ct, e0, ⟨e21, e22⟩, ⟨ep, eO, eP⟩, e6, e7, e8⟩ := kk
  obtain ⟨E, Cf, ⟨sr, er, u1, u2, u3, u4, u5⟩, hlf, eo, hfl, -⟩ := hr
  have h0 : mI M (q + 1) 3 = 0 := hf.1
  refine (x_TR_worksOut (k := k) (l2 := 1) (cv := cv) hF hk (i32s (by omega) (by omega)) h1 h0 (by rw [e21]; exact u1) v1 (Nat.le_trans v3 v5) (fun j i1 i2 => (hlf j i1 i2).cg e6 e7) eo hfl (by rw [eO, eP]; exact u3) u4 (by rw [eO]; exact u2) (fun _ => by rw [e22]; exact u5)).mono (fun r M' k => ?_)
  obtain ⟨⟨Ab1, Be1, Cm1, h2, fa, hab, hrm, ⟨q0, q1, q21, qp, qO, qP, qA⟩, k8⟩, wv, ctk, w22, w6, w7⟩ := k
  have i9 : i32 r := m_b32 (k8.imp (fun u => u) (fun u => u.1))
  have cg : ∀ {k : Nat}, rvR M q O P F ns L sl k → rvR M' q O P F ns L sl k := fun hr => hr.cg (by rw [q21]) (fun i _ => ⟨by rw [qO], by rw [qP]⟩) (Nat.le_refl _)
  have v12' : 12 ≤ V → mI M' (q + 1) 3 ≠ 0 := fun u => absurd h0 (v12 u)
  refine ⟨i9, h2.1.1.1, ⟨Ab1, Be1, Cm1, h2, trf.trans (wu_tr fa hab hrm), ⟨by rw [qp]; exact v1, v2, v3, by rw [q1 2 (by decide) (by decide)]; exact v4, v5, by rw [q1 5 (by decide) (by decide)]; exact v6, by rw [q0]; exact v7, v8, by rw [qA]; exact v9, by rw [q0]; exact v10, by rw [q0]; exact v11, v12'⟩, fun u => ?_, fun u => ?_⟩, ⟨ctk _ ct, by rw [q0]; exact e0, ⟨by rw [q21]; exact e21, by rw [w22]; exact e22⟩, ⟨by rw [qp]; exact ep, by rw [qO]; exact eO, by rw [qP]; exact eP⟩, by rw [w6]; exact e6, by rw [w7]; exact e7, fun i i3 i15 => by rw [wu_p h1 fa i i15]; exact e8 i i3 i15⟩, ?_⟩
  · rw [q0] at u
    exact ⟨cg (r8 u).1, cg (r8 u).2⟩
  · rw [q0] at u
    exact cg (r7 u)
  · have ew : wuf 1 (vlq W cv pl 0 0 x y) (pl x) = wh9 (vlq W cv pl 0 0 x y) (pl x) := by
      unfold wuf
      rw [if_neg (by decide)]
    unfold wuV at wv
    rw [ew] at wv
    exact wv.imp (fun u => u) (fun u => ⟨u.1, u.2.1, u.2.2.1, u.2.2.2.1, u.2.2.2.2.1⟩)
/-- the program's tables with var number V -/
def svD (p O P V L : Nat) (l1 l2 l3 : Int) (M M' : mM) : Prop := (∀ i, 6 ≤ i → i ≤ 15 → mI M' (p + i) = mI M (p + i)) ∧ (∀ j, mI M' (p + 3) j = (if j = V then l1 else mI M (p + 3) j) ∧ mI M' (p + 4) j = (if j = V then l2 else mI M (p + 4) j) ∧ mI M' (p + 5) j = (if j = V then l3 else mI M (p + 5) j)) ∧ (mI M' O = mI M O ∧ mI M' P = mI M P) ∧ mI M' p 2 = ((L : Nat) : Int) ∧ mI M' p 11 = mI M p 11
/-- a var has been added -/
def svY (M : mM) (q p V : Nat) (nms : List nm9) (e9 : nm9) (M' : mM) : Prop := CT M' (q + 1) p (nms ++ [e9]) ∧ (∀ i, i ≠ 19 → mI M' (q + 1) i = mI M (q + 1) i) ∧ ∀ i, i ≠ 2 → mI M' p i = if i = 3 then (V : Int) + 1 else mI M p i
theorem x_sv_fin {l1 l2 l3 : Int} (hvc : vcn nms = V) (wv : ∀ j, mI M1 (p + 3) j = (if j = V then l1 else mI M (p + 3) j) ∧ mI M1 (p + 4) j = (if j = V then l2 else mI M (p + 4) j) ∧ mI M1 (p + 5) j = (if j = V then l3 else mI M (p + 5) j)) (h : TX M z q w T A B D N C n p O P K Ab Be Cm V F ns sf ef c cnt L) (hv : vrS M q A n p L sl a nw V) (hV : V < 12) (hf : trF M0 q p O P Ab0 Be0 Cm0 M Ab Be Cm) (o1 : mOk M1) (f1 : FI (fun b => b = p + 3 ∨ b = p + 4 ∨ b = p + 5) M M1) (ct : CT M (q + 1) p nms) (hl : nms.length = c) (hc72 : c < 72) : Cv G y_RR_know d [vr (q + 1), vi (mI M1 q 3), vi 5, vi (mI M1 p 3), vi (mI M1 q 8)] M1 (fun M136 => mOk M136 ∧ (mK M136 q = 3 ∧ mK M136 (mR M136 q 2) = 6 ∧ i32 ((mI M136 (mR M136 q 2) 3) + 1) ∧ ∀ M142, M142 = mUI M136 (mR M136 q 2) 3 ((mI M136 (mR M136 q 2) 3) + 1) → mK M142 (mR M142 q 2) = 6 ∧ ∀ M145, M145 = mUI M142 (mR M142 q 2) 2 (mI M142 q 4) → (itE M0 z q w T A B D N C n p O P K Ab0 Be0 Cm0 M145 ∧ svY M q p V nms (nw, 3, mI M q 8, (0, 0, 1)) M145 ∧ svD p O P V L l1 l2 l3 M M145))) := by
  obtain ⟨v1, v2, v3, v4, v5, v6, v7, v8, v9, v10, v11, v12⟩ := hv
  have ap := h.1.apart
  have qp := h.1.2.2.2.2.2.1.2.1
  have c3 := h.2.1.1.1
  have hN : n ≤ 16384 := by have := h.1.1.2.2.2.1.2.2.1; have := h.1.1.2.2.2.1.1.2.2.2.2.2.2.1; omega
  have nb1 : ∀ b, b ≠ p + 3 → b ≠ p + 4 → b ≠ p + 5 → mI M1 b = mI M b := fun b b1 b2 b3 => f1.2.2.2.2.2.2 b (fun y => by
    have y' : b = p + 3 ∨ b = p + 4 ∨ b = p + 5 := y
    omega)
  have fx1 : FI (txS q p O P) M M1 := f1.mono (fun b y => by
    have y' : b = p + 3 ∨ b = p + 4 ∨ b = p + 5 := y
    show (q ≤ b ∧ b ≤ q + 10) ∨ b = q + 21 ∨ b = q + 22 ∨ b = p ∨ (p + 3 ≤ b ∧ b ≤ p + 15) ∨ b = O ∨ b = P
    omega)
  have P1 := h.1.fi o1 fx1
  have A1 := (h.1.words fx1).1
  have e1 := nb1 q (by omega) (by omega) (by omega)
  have e2 := nb1 p (by first | (have h1 := qp; omega) | omega) (by first | (have h1 := qp; omega) | omega) (by first | (have h1 := qp; omega) | omega)
  have e3 := nb1 (q + 1) (by omega) (by omega) (by omega)
  have tn : TN M1 (q + 1) A n (V + 1) F ns c := h.2.1.2.2.1.more A1 e3 (fun i _ _ => nb1 _ (by omega) (by omega) (by omega))
  have eO := nb1 O (by first | (have h1 := ap.2.2.2.1; have h2 := ap.2.1; omega) | omega) (by first | (have h1 := ap.2.2.2.1; have h2 := ap.2.1; omega) | omega) (by first | (have h1 := ap.2.2.2.1; have h2 := ap.2.1; omega) | omega)
  have eP := nb1 P (by first | (have h1 := ap.2.2.2.2.1; have h2 := ap.2.2.1; omega) | omega) (by first | (have h1 := ap.2.2.2.2.1; have h2 := ap.2.2.1; omega) | omega) (by first | (have h1 := ap.2.2.2.2.1; have h2 := ap.2.2.1; omega) | omega)
  have e6 : ∀ i, 6 ≤ i → i ≤ 15 → mI M1 (p + i) = mI M (p + i) := fun i h6 h15 => nb1 _ (by omega) (by omega) (by omega)
  have e5 : mI M1 (q + 6) = mI M (q + 6) := nb1 _ (by omega) (by omega) (by omega)
  have ct1 : CT M1 (q + 1) p nms := ct.cg (by rw [e3]) (nb1 _ (by omega) (by omega) (by omega)) (nb1 _ (by omega) (by omega) (by omega)) (nb1 _ (by omega) (by omega) (by omega)) (nb1 _ (by omega) (by omega) (by omega)) (e6 6 (by omega) (by omega)) (e6 7 (by omega) (by omega))
  rw [e1, e2, v7, c3]
  refine (x_RR_know (v := nw) (l2 := 5) (l3 := V) P1.1 tn v8 (by rw [A1]; exact v9) (i32s (by omega) (by omega)) (i32s (by omega) (by omega)) v11 (Or.inl ⟨rfl, by omega, by omega⟩)).mono (fun M136 k => ?_)
  obtain ⟨k1, k2, k3, k4, ⟨c', k5, -⟩, k6⟩ := k
  have nb2 : ∀ b, (b < q + 1 ∨ q + 1 + 9 < b) → mI M136 b = mI M1 b := fun b hb => k2.2.2.2.2.2.2 b (fun y => by have y' : q + 1 ≤ b ∧ b ≤ q + 1 + 9 := y; omega)
  have fx2 : FI (txS q p O P) M1 M136 := k2.mono (fun b y => Or.inl (by have y' : q + 1 ≤ b ∧ b ≤ q + 1 + 9 := y; omega))
  have P2 := P1.fi k1.1 fx2
  obtain ⟨t0, t1, t2, t3, t4, t5⟩ := P2.2.1
  have p2 : mI M136 p = mI M p := by rw [nb2 p (by first | (have h1 := qp; omega) | omega), e2]
  have q2 : mI M136 q = mI M q := by rw [nb2 q (by omega), e1]
  rw [t3, p2, c3]
  refine ⟨k1.1, t0, P2.1.2.2.2.2.1.1, ⟨by omega, by omega⟩, fun M142 e142 => ?_⟩
  have f142 : FI (fun b => b = p) M136 M142 := by rw [e142]; exact FI.ui rfl
  have q3 : mI M142 q 4 = ((L : Nat) : Int) := by rw [f142.2.2.2.2.2.2 q (by omega), q2]; exact v10
  rw [f142.1, f142.2.2.1, t3, q3]
  refine ⟨P2.1.2.2.2.2.1.1, fun M145 e145 => ?_⟩
  have f145 : FI (fun b => b = p) M142 M145 := by rw [e145]; exact FI.ui rfl
  have ff := f142.trans f145
  have fx3 : FI (txS q p O P) M136 M145 := ff.mono (fun b y => Or.inr (Or.inr (Or.inr (Or.inl y))))
  have o145 : mOk M145 := by rw [e145]; exact mOk_UI (by rw [e142]; exact mOk_UI k1.1 ⟨by omega, by omega⟩) ⟨by omega, by omega⟩
  have nb3 : ∀ b, b ≠ p → mI M145 b = mI M136 b := fun b hb => ff.2.2.2.2.2.2 b hb
  have ip : ∀ i, mI M145 p i = if i = 2 then ((L : Nat) : Int) else if i = 3 then (V : Int) + 1 else mI M p i := fun i => by
    rw [mI_ui p i e145]
    by_cases y2 : i = 2
    · rw [if_pos ⟨rfl, y2⟩, if_pos y2]
    · rw [if_neg (fun u => y2 u.2), if_neg y2, mI_ui p i e142]
      by_cases y3 : i = 3
      · rw [if_pos ⟨rfl, y3⟩, if_pos y3]
      · rw [if_neg (fun u => y3 u.2), if_neg y3, p2]
  have rr : ∀ i, i ≠ 19 → mI M145 (q + 1) i = mI M (q + 1) i := fun i hi => by rw [nb3 _ (by omega), k3 i hi, e3]
  have P3 := P2.fi o145 fx3
  have h145 : TX M145 z q w T A B D N C n p O P K Ab Be Cm (V + 1) F ns sf ef c' cnt L := by
    obtain ⟨-, ⟨c1, c2, c3', c4⟩, hX⟩ := h
    refine ⟨P3, ⟨⟨by rw [ip, if_neg (by decide), if_pos rfl]; omega, by omega⟩, by rw [ip, if_neg (by decide), if_neg (by decide)]; exact c2, ?_, fun j => by rw [nb3 _ (by omega), show q + 6 = q + 1 + 5 by first | rfl | omega, k4 5 (by omega) (by omega), show q + 1 + 5 = q + 6 by first | rfl | omega, e5]; exact c4 j⟩, hX.var (fun y => by rw [rr 3 (by decide)]; exact y) (fun i i2 i3 => by rw [ip, if_neg i2, if_neg i3]) (fun i i6 i15 => by rw [nb3 _ (by omega), nb2 _ (by omega), e6 i i6 i15]) (fun i _ => ⟨by rw [nb3 O (by first | (have h1 := ap.2.2.2.1; have h2 := ap.2.1; omega) | omega), nb2 O (by first | (have h1 := ap.2.2.2.1; have h2 := ap.2.1; omega) | omega), eO], by rw [nb3 P (by first | (have h1 := ap.2.2.2.2.1; have h2 := ap.2.2.1; omega) | omega), nb2 P (by first | (have h1 := ap.2.2.2.2.1; have h2 := ap.2.2.1; omega) | omega), eP]⟩)⟩
    have A3 := (P2.words fx3).1
    unfold TN at k5 ⊢
    rw [A3, nb3 (q + 1) (by omega), nb3 (q + 1 + 6) (by omega), nb3 (q + 1 + 7) (by omega), nb3 (q + 1 + 8) (by omega), nb3 (q + 1 + 9) (by omega)]
    exact k5
  have ct2 : CT M136 (q + 1) p (nms ++ [(nw, 3, mI M q 8, (0, 0, 1))]) := ct1.kn hl (k6 hc72) (nb2 _ (by omega)) (nb2 _ (by omega)) rfl rfl ⟨by simp, by simp⟩ rfl (fun u => absurd u (by simp)) (fun _ j e' hj he => by
    have jc : j < c := by rw [← hl]; exact (List.getElem?_eq_some_iff.mp hj).1
    have s5 : mI M1 (q + 1 + 7) j = 5 := by rw [(ct1.2 j e' hj).2.1, he]; rfl
    obtain ⟨-, u, -⟩ := h.2.1.2.2.1.2.2 j jc
    have s5' : mI M (q + 1 + 7) j = 5 := by rw [← s5, nb1 _ (by omega) (by omega) (by omega)]
    rw [nb1 (q + 1 + 8) (by omega) (by omega) (by omega)]
    clear k6 ct ct1
    rcases u with u | u
    · omega
    · rcases u.1 with v | v <;> rw [s5'] at v <;> exact absurd v (by decide)) (by show ((V : Nat) : Int) = if (3 : Nat) = 3 then _ else _; rw [if_pos rfl, hvc])
  have ct3 : CT M145 (q + 1) p (nms ++ [(nw, 3, mI M q 8, (0, 0, 1))]) := ct2.cg (by rw [nb3 _ (by omega)]) (nb3 _ (by omega)) (nb3 _ (by omega)) (nb3 _ (by omega)) (nb3 _ (by omega)) (nb3 _ (by omega)) (nb3 _ (by omega))
  have nbp : ∀ i, 3 ≤ i → i ≤ 15 → mI M145 (p + i) = mI M1 (p + i) := fun i i3 i15 => by rw [nb3 _ (by omega), nb2 _ (by omega)]
  refine ⟨?_, ⟨ct3, rr, fun i hi => by rw [ip, if_neg hi]⟩, fun i i6 i15 => by rw [nbp i (by omega) i15, e6 i i6 i15], fun j => by rw [nbp 3 (by omega) (by omega), nbp 4 (by omega) (by omega), nbp 5 (by omega) (by omega)]; exact wv j, ⟨by rw [nb3 O (by first | (have h1 := ap.2.2.2.1; have h2 := ap.2.1; omega) | omega), nb2 O (by first | (have h1 := ap.2.2.2.1; have h2 := ap.2.1; omega) | omega), eO], by rw [nb3 P (by first | (have h1 := ap.2.2.2.2.1; have h2 := ap.2.2.1; omega) | omega), nb2 P (by first | (have h1 := ap.2.2.2.2.1; have h2 := ap.2.2.1; omega) | omega), eP]⟩, by rw [ip, if_pos rfl], by rw [ip, if_neg (by decide), if_neg (by decide)]⟩
  exact ⟨Ab, Be, Cm, V + 1, F, ns, sf, ef, c', cnt, L, a, h145, by rw [ip, if_pos rfl], by rw [rr 2 (by decide)]; exact v4, v5, by omega, by rw [rr 5 (by decide)]; exact v6, ((hf.trans (trF.fi fx1)).trans (trF.fi fx2)).trans (trF.fi fx3)⟩
end TXM
end
end
section
section
/-! The class's reader of texts, exactly: settleVar. -/
section TXN
variable {G : mG} {d z q w T A B D N C n p O P K Ab Be Cm V F c sl L cnt a nw k x0 y0 x1 y1 x2 y2 Ab0 Be0 Cm0 : Nat} {M0 M M' M1 M2 Mb : mM} {ns : Nat → Int} {sf ef : Nat → Nat} {W pl nq E : Nat → Int} {Cf : Nat → Int × Int} {cv : Nat → vrs} {sm : Nat → Nat → Prop} {nms : List nm9} {s s' : st9} {ft ff : Int × Int} {tr : Int} {lo hi be : vrs}
/-- the state with one var more -/
def svN (s : st9) (nw : Nat) (t : Int) : st9 := (s.1 ++ [(nw, 3, t, (0, 0, 1))], (s.2.1.1 + 1, s.2.1.2), (0, 0))
theorem x_sv171 {l1 l2 l3 v19 v29 v39 : Int} (ht : ff.1 = 0 → l1 = v19 ∧ l2 = v29 ∧ l3 = v39) (i1 : i32 l1) (i2 : i32 l2) (i3 : i32 l3) (cs : CSm Mb q p s) (h : svS M0 z q w T A B D N C n p O P K Ab0 Be0 Cm0 V F ns sf ef c cnt L sl a nw M) (kk : svK q p O P s.1 Mb M) (hf : FT M (q + 1) ff) (hs1 : ff.1 ≠ 0 → s'.2.2 = ff) (hs2 : ff.1 = 0 → s' = svN s nw (mI Mb q 8)) : h_TR_settleVar_171 G (d + 5) q l1 l2 l3 M (fun M' => itE M0 z q w T A B D N C n p O P K Ab0 Be0 Cm0 M' ∧ itZ q p s' M' ∧ mI M' (q + 1) 2 = ((a : Nat) : Int) ∧ (s'.2.2.1 = 0 → svD p O P V L v19 v29 v39 Mb M')) := by
  obtain ⟨Ab, Be, Cm, h1, tr, hv, -, -⟩ := h
  obtain ⟨t0, t1, t2, t3, t4, t5⟩ := h1.1.2.1
  obtain ⟨k6, ⟨p4, p5, p6, -⟩, ⟨kp3, kp4, kp5, -⟩, ⟨np3, np4, np5, -⟩⟩ := h1.tab
  have c3 := h1.2.1.1.1
  refine k_TR_settleVar_171 h1.1.1.1 i1 i2 i3 ?_
  refine ⟨t0, by rw [t1]; exact h1.1.1.2.1.1, fun y0 => ?_, fun y0 => ?_⟩
  · rw [t1] at y0
    have hV : V < 12 := by
      by_cases u : 12 ≤ V
      · exact absurd y0 (hv.2.2.2.2.2.2.2.2.2.2.2 u)
      · omega
    have e8 : mI M q 8 = mI Mb q 8 := by rw [kk.2.1]
    obtain ⟨ct, -, -, ⟨gp, gO, gP⟩, -, -, g8⟩ := kk
    obtain ⟨-, j3, j7, j12, j11, jl, jv, jr⟩ := cs
    obtain ⟨h9a, h9b, h9c⟩ := ht (by rw [← hf.1]; exact y0)
    have hl : s.1.length = c := by
      have w1 := ct.1
      have w2 := h1.2.1.2.2.1.1
      omega
    have hc : c < 72 := by
      have w1 := h1.2.1.2.1.1
      have w2 := h1.2.1.2.1.2
      rw [gp] at c3 w1
      omega
    have es := hs2 (by rw [← hf.1]; exact y0)
    have fin : ∀ M9, itE M0 z q w T A B D N C n p O P K Ab0 Be0 Cm0 M9 ∧ svY M q p V s.1 (nw, 3, mI M q 8, (0, 0, 1)) M9 ∧ svD p O P V L l1 l2 l3 M M9 → itE M0 z q w T A B D N C n p O P K Ab0 Be0 Cm0 M9 ∧ itZ q p s' M9 ∧ mI M9 (q + 1) 2 = ((a : Nat) : Int) ∧ (s'.2.2.1 = 0 → svD p O P V L v19 v29 v39 Mb M9) := fun M9 g => by
      obtain ⟨g1, ⟨w1, w2, w3⟩, d1, d2, ⟨d3, d4⟩, d5, d6⟩ := g
      rw [e8] at w1
      rw [es]
      refine ⟨g1, ⟨⟨by rw [w2 3 (by decide)]; exact y0, fun u => absurd rfl u⟩, fun _ => ⟨w1, ?_, ?_, ?_, ?_, ?_, ?_, ?_⟩⟩, by rw [w2 2 (by decide)]; exact hv.2.2.2.1, fun _ => ⟨fun i i6 i15 => by rw [d1 i i6 i15, g8 i (by omega) i15], fun j => by rw [(d2 j).1, (d2 j).2.1, (d2 j).2.2, g8 3 (by omega) (by omega), g8 4 (by omega) (by omega), g8 5 (by omega) (by omega), h9a, h9b, h9c]; exact ⟨rfl, rfl, rfl⟩, ⟨by rw [d3, gO], by rw [d4, gP]⟩, d5, by rw [d6, gp]⟩⟩
      · rw [w3 3 (by decide), if_pos rfl]
        show (V : Int) + 1 = ((s.2.1.1 + 1 : Nat) : Int)
        rw [gp] at c3
        omega
      · rw [w3 7 (by decide), if_neg (by decide), gp]; exact j7
      · rw [w3 12 (by decide), if_neg (by decide), gp]; exact j12
      · rw [w3 11 (by decide), if_neg (by decide), gp]; exact j11
      · show (s.1 ++ [(nw, 3, mI Mb q 8, (0, 0, 1))]).length = s.2.1.1 + 1 + s.2.1.2.1
        rw [List.length_append, jl]
        simp
        omega
      · show vcn (s.1 ++ [(nw, 3, mI Mb q 8, (0, 0, 1))]) = s.2.1.1 + 1
        rw [vcn_app, jv]
        rfl
      · show rcn (s.1 ++ [(nw, 3, mI Mb q 8, (0, 0, 1))]) = s.2.1.2.1
        rw [rcn_app, jr]
        rfl
    rw [t3, p4, np3, c3, Int.toNat_natCast]
    refine ⟨k6, kp3, by omega, fun M122 e122 => ?_⟩
    have f122 : FI (fun b => b = p + 3) M M122 := by rw [e122]; exact FI.ui rfl
    rw [f122.1, f122.2.1, f122.2.2.1, t3, p5, np4, f122.2.2.2.2.2.2 p (by omega), c3, Int.toNat_natCast]
    refine ⟨k6, kp4, by omega, fun M127 e127 => ?_⟩
    have f127 : FI (fun b => b = p + 4) M122 M127 := by rw [e127]; exact FI.ui rfl
    rw [f127.1, f127.2.1, f127.2.2.1, f122.1, f122.2.1, f122.2.2.1, t3, p6, np5, f127.2.2.2.2.2.2 p (by omega), f122.2.2.2.2.2.2 p (by omega), c3, Int.toNat_natCast]
    refine ⟨k6, kp5, by omega, fun M132 e132 => ?_⟩
    have f132 : FI (fun b => b = p + 5) M127 M132 := by rw [e132]; exact FI.ui rfl
    have ff : FI (fun b => b = p + 3 ∨ b = p + 4 ∨ b = p + 5) M M132 := ((f122.mono (fun _ y => Or.inl y)).trans (f127.mono (fun _ y => Or.inr (Or.inl y)))).trans (f132.mono (fun _ y => Or.inr (Or.inr y)))
    have wv : ∀ j, mI M132 (p + 3) j = (if j = V then l1 else mI M (p + 3) j) ∧ mI M132 (p + 4) j = (if j = V then l2 else mI M (p + 4) j) ∧ mI M132 (p + 5) j = (if j = V then l3 else mI M (p + 5) j) := fun j => by
      rw [f132.2.2.2.2.2.2 _ (show ¬ p + 3 = p + 5 by first | rfl | omega), f127.2.2.2.2.2.2 _ (show ¬ p + 3 = p + 4 by first | rfl | omega), mI_ui _ j e122, f132.2.2.2.2.2.2 _ (show ¬ p + 4 = p + 5 by first | rfl | omega), mI_ui _ j e127, f122.2.2.2.2.2.2 _ (show ¬ p + 4 = p + 3 by first | rfl | omega), mI_ui _ j e132, f127.2.2.2.2.2.2 _ (show ¬ p + 5 = p + 4 by first | rfl | omega), f122.2.2.2.2.2.2 _ (show ¬ p + 5 = p + 3 by first | rfl | omega)]
      by_cases y : j = V
      · simp [y]
      · simp [y]
    have o132 : mOk M132 := by rw [e132]; exact mOk_UI (by rw [e127]; exact mOk_UI (by rw [e122]; exact mOk_UI h1.1.1.1 i1) i2) i3
    rw [ff.1, ff.2.2.1, t1, t3]
    have hvc : vcn s.1 = V := by
      rw [jv]
      rw [gp] at c3
      omega
    refine ⟨k6, h1.1.1.2.1.1, (x_sv_fin (l1 := l1) (l2 := l2) (l3 := l3) hvc wv h1 hv hV tr o132 ff ct hl hc).mono (fun M136 g => ?_)⟩
    obtain ⟨g1, g2, g3, g4, g5⟩ := g
    refine ⟨g1, g2, g3, g4, fun M142 e142 => ?_⟩
    obtain ⟨g6, g7⟩ := g5 M142 e142
    exact ⟨g6, fun M145 e145 => fin M145 (g7 M145 e145)⟩
  · obtain ⟨v1, v2, v3, v4, v5, v6, -⟩ := hv
    rw [t1] at y0
    have f0 : ff.1 ≠ 0 := by rw [← hf.1]; exact y0
    have es := hs1 f0
    exact ⟨⟨Ab, Be, Cm, V, F, ns, sf, ef, c, cnt, sl, a, h1.any (fun _ => v2), v1, v4, v5, v3, v6, tr⟩, itZ.bad (by rw [es]; exact hf) (by rw [es]; exact f0), v4, fun t => absurd t (by rw [es]; exact f0)⟩
theorem FT.zz {r : Nat} (h : mI M r 3 = 0) : FT M r (0, 0) := ⟨h, fun u => absurd rfl u⟩
/-- the fault of a var's begin -/
def sv2 (i7 : Int) (be : vrs) (l1 l2 p2 : Int) : Int × Int := if i7 = 0 then (0, 0) else fst9 (wh9 be p2) (if l1 ≤ be.2.1 ∧ be.2.1 ≤ l2 then (0, 0) else (9, p2))
/-- the fault of a var's range -/
def sv1 (l1 l2 p1 : Int) : Int × Int := if l1 ≤ l2 ∧ l2 - l1 < 10000 then (0, 0) else (9, p1)
theorem x_sv106 {l1 l2 v19 v29 v39 : Int} (ht : ff.1 = 0 → l1 = v19 ∧ l2 = v29 ∧ (if mI Mb q 7 = 0 then l1 else be.2.1) = v39) (hF : FMx G) (i1 : i32 l1) (i2 : i32 l2) (cs : CSm Mb q p s) (h : svS M0 z q w T A B D N C n p O P K Ab0 Be0 Cm0 V F ns sf ef c cnt L sl a nw M) (kk : svK q p O P s.1 Mb M) (hf : FT M (q + 1) ft) (hle : ft.1 = 0 → l1 ≤ l2) (h2 : ft.1 = 0 → mI Mb q 7 ≠ 0 → rwE W pl cv q p O P sl 2 x2 y2 tr Mb) (hbe : be = vlq W cv pl 0 0 x2 y2) (hff : ff = fst9 ft (sv2 (mI Mb q 7) be l1 l2 (pl x2))) (hs1 : ff.1 ≠ 0 → s'.2.2 = ff) (hs2 : ff.1 = 0 → s' = svN s nw (mI Mb q 8)) : h_TR_settleVar_106 G (d + 5) q l1 l2 M (fun M' => itE M0 z q w T A B D N C n p O P K Ab0 Be0 Cm0 M' ∧ itZ q p s' M' ∧ mI M' (q + 1) 2 = ((a : Nat) : Int) ∧ (s'.2.2.1 = 0 → svD p O P V L v19 v29 v39 Mb M')) := by
  obtain ⟨ok, t0, t1, k4, t2, k5, kA, nA, t6, k22, n22⟩ := h.pl
  have q7 : mI M q 7 = mI Mb q 7 := by rw [kk.2.1]
  refine k_TR_settleVar_106 ok i1 i2 ?_
  refine ⟨t0, by rw [t1]; exact k4, fun y => ⟨fun y2 => ?_, fun _ => ?_⟩, fun y => ?_⟩
  · have ne : ft.1 ≠ 0 := fun u => by
      have := hle u
      omega
    rw [fst9_n ne] at hff
    rw [t1, t6, n22]
    refine ⟨k22, ⟨by omega, by omega⟩, (x_sv_note (i32s (by omega) (by omega)) (by decide) (ok _ _).1 h kk hf).mono (fun M' k => ⟨k.1, x_sv171 (fun u => absurd (by rw [hff] at u; exact u) ne) i1 i2 i1 cs k.2.1 k.2.2.1 ?_ hs1 hs2⟩)⟩
    have u := k.2.2.2
    rw [fst9_n ne] at u
    rw [hff]
    exact u
  · have e7f : ff.1 = 0 → mI Mb q 7 = 0 := fun u => by
      rw [hff] at u
      have f0 := (fst9_1.mp u).1
      rw [t1] at y
      rw [← q7]
      exact y.resolve_left (fun v => v (by rw [hf.1]; exact f0))
    refine x_sv171 (fun u => ⟨(ht u).1, (ht u).2.1, by have a := (ht u).2.2; rw [if_pos (e7f u)] at a; exact a⟩) i1 i2 i1 cs h kk ?_ hs1 hs2
    rw [hff]
    rw [t1] at y
    by_cases f0 : ft.1 = 0
    · have e7 : mI Mb q 7 = 0 := by
        rw [← q7]
        exact y.resolve_left (fun u => u (by rw [hf.1]; exact f0))
      unfold sv2
      rw [if_pos e7]
      exact hf.none
    · rw [fst9_n f0]
      exact hf
  · rw [t1] at y
    have y0 : mI M (q + 1) 3 = 0 := Classical.byContradiction (fun u => y (Or.inl u))
    have y7 : mI Mb q 7 ≠ 0 := fun u => y (Or.inr (by rw [q7]; exact u))
    have f0 : ft.1 = 0 := by rw [← hf.1]; exact y0
    rw [fst9_zr f0] at hff
    unfold sv2 at hff
    rw [if_neg y7] at hff
    have hr2 := h2 f0 y7
    have e22 : mI Mb (q + 22) 2 = pl x2 := by
      obtain ⟨-, -, ⟨-, -, -, -, -, -, u⟩, -⟩ := hr2
      exact u
    have l12 := hle f0
    refine (x_sv_works (k := 2) hF (by omega) h kk (FT.zz y0) hr2).mono (fun x79 M78 k => ?_)
    rw [← hbe] at k
    obtain ⟨i79, o78, h78, k78, wv⟩ := k
    obtain ⟨-, u0, u1, w4, u2, w5, uA, vA, u6, w22, m22⟩ := h78.pl
    refine ⟨i79, o78, fun _ => ⟨u0, by rw [u2]; exact w5, by rw [u2]; exact uA, ⟨by omega, by rw [u2]; exact vA⟩⟩, fun v86 e86 => ?_⟩
    have i86 : i32 v86 := by
      rw [e86]
      split
      · exact i1
      · exact (o78 _ _).1
    rw [u2] at e86
    rcases wv with ⟨z0, z1, z2⟩ | ⟨z0, z1, z2, z3, z4⟩
    · rw [if_pos z0] at e86
      rw [fst9_n z1] at hff
      exact ⟨i86, fun u => absurd u (by omega), fun _ => x_sv171 (fun u => absurd (by rw [hff] at u; exact u) z1) i1 i2 i86 cs h78 k78 (by rw [hff]; exact z2) hs1 hs2⟩
    · rw [if_neg (by omega), z4] at e86
      rw [fst9_zr z1] at hff
      refine ⟨i86, fun u => ⟨u0, by rw [u6]; exact w22, ⟨by omega, by rw [u6, m22]; omega⟩, by rw [u1]; exact w4, ?_⟩, fun u => ?_⟩
      · rw [u1, u6]
        rw [if_neg (by omega)] at hff
        refine (x_sv_note (i32s (by omega) (by omega)) (by decide) (o78 _ _).1 h78 k78 z3).mono (fun M' k => ⟨k.1, x_sv171 (fun u => absurd (by rw [hff] at u; exact u) (by simp)) i1 i2 i86 cs k.2.1 k.2.2.1 ?_ hs1 hs2⟩)
        have v := k.2.2.2
        rw [fst9_zr rfl, k78.2.2.1.2, e22] at v
        rw [hff]
        exact v
      · rw [if_pos (by omega)] at hff
        exact x_sv171 (fun u => ⟨(ht u).1, (ht u).2.1, by have a := (ht u).2.2; rw [if_neg y7] at a; rw [e86]; exact a⟩) i1 i2 i86 cs h78 k78 (by rw [hff]; exact z3) hs1 hs2
theorem x_sv76 {l1 l2 v19 v29 v39 : Int} (ht : ff.1 = 0 → l1 = v19 ∧ l2 = v29 ∧ (if mI Mb q 7 = 0 then l1 else be.2.1) = v39) (hF : FMx G) (i1 : i32 l1) (i2 : i32 l2) (cs : CSm Mb q p s) (h : svS M0 z q w T A B D N C n p O P K Ab0 Be0 Cm0 V F ns sf ef c cnt L sl a nw M) (kk : svK q p O P s.1 Mb M) (hf : FT M (q + 1) ft) (hb : ft.1 = 0 → l1.natAbs ≤ 999999999 ∧ l2.natAbs ≤ 999999999) (h1 : ft.1 = 0 → mI Mb (q + 22) 1 = pl x1) (h2 : ft.1 = 0 → mI Mb q 7 ≠ 0 → rwE W pl cv q p O P sl 2 x2 y2 tr Mb) (hbe : be = vlq W cv pl 0 0 x2 y2) (hff : ff = fst9 (fst9 ft (sv1 l1 l2 (pl x1))) (sv2 (mI Mb q 7) be l1 l2 (pl x2))) (hs1 : ff.1 ≠ 0 → s'.2.2 = ff) (hs2 : ff.1 = 0 → s' = svN s nw (mI Mb q 8)) : h_TR_settleVar_76 G (d + 5) q l1 l2 M (fun M' => itE M0 z q w T A B D N C n p O P K Ab0 Be0 Cm0 M' ∧ itZ q p s' M' ∧ mI M' (q + 1) 2 = ((a : Nat) : Int) ∧ (s'.2.2.1 = 0 → svD p O P V L v19 v29 v39 Mb M')) := by
  obtain ⟨ok, t0, t1, k4, t2, k5, kA, nA, t6, k22, n22⟩ := h.pl
  have ew : ft.1 = 0 → w32 (l2 - l1) = l2 - l1 := fun u => by
    obtain ⟨b1, b2⟩ := hb u
    exact w32_id ⟨by omega, by omega⟩
  have v0 : ∀ {f : Int × Int}, f = fst9 ft (sv1 l1 l2 (pl x1)) → f.1 = 0 → ft.1 = 0 ∧ l1 ≤ l2 := fun {f} e u => by
    rw [e] at u
    obtain ⟨u1, u2⟩ := fst9_1.mp u
    refine ⟨u1, Classical.byContradiction (fun v => ?_)⟩
    unfold sv1 at u2
    rw [if_neg (fun t => v t.1)] at u2
    exact absurd u2 (by simp)
  refine k_TR_settleVar_76w ok i1 i2 ⟨trivial, fun y => ?_, fun y => ?_⟩
  · rw [t1, t6, n22]
    refine ⟨t0, k22, ⟨by omega, by omega⟩, k4, (x_sv_note (i32s (by omega) (by omega)) (by decide) (ok _ _).1 h kk hf).mono (fun M' k => ⟨k.1, x_sv106 (ft := fst9 ft (sv1 l1 l2 (pl x1))) ht hF i1 i2 cs k.2.1 k.2.2.1 ?_ (fun u => (v0 rfl u).2) (fun u => h2 (v0 rfl u).1) hbe hff hs1 hs2⟩)⟩
    have v := k.2.2.2
    by_cases f0 : ft.1 = 0
    · rw [ew f0] at y
      rw [kk.2.2.1.2, h1 f0] at v
      unfold sv1
      rw [if_neg (by omega)]
      exact v
    · rw [fst9_n f0] at v ⊢
      exact v
  · refine x_sv106 (ft := fst9 ft (sv1 l1 l2 (pl x1))) ht hF i1 i2 cs h kk ?_ (fun u => (v0 rfl u).2) (fun u => h2 (v0 rfl u).1) hbe hff hs1 hs2
    by_cases f0 : ft.1 = 0
    · rw [ew f0] at y
      unfold sv1
      rw [if_pos (by omega)]
      exact hf.none
    · rw [fst9_n f0]
      exact hf
/-- the faults of a var's values -/
def sv9 (t8 i7 : Int) (lo hi be : vrs) (p0 p1 p2 : Int) : Int × Int := fst9 (if t8 = 1 then (0, 0) else fst9 (fst9 (wh9 lo p0) (wh9 hi p1)) (if lo.2.1 ≤ hi.2.1 ∧ hi.2.1 - lo.2.1 < 10000 then (0, 0) else (9, p1))) (if i7 = 0 then (0, 0) else (if t8 = 1 then wh9 be p2 else fst9 (wh9 be p2) (if lo.2.1 ≤ be.2.1 ∧ be.2.1 ≤ hi.2.1 then (0, 0) else (9, p2))))
theorem rwE.p22 {k x y : Nat} (h : rwE W pl cv q p O P sl k x y tr M) : mI M (q + 22) k = pl x := by
  obtain ⟨-, -, ⟨-, -, -, -, -, -, u⟩, -⟩ := h
  exact u
theorem wh9_z {v : vrs} {pp : Int} (h : (wh9 v pp).1 = 0) : v.1 = 0 ∧ v.2.2 = 1 := by
  unfold wh9 at h
  by_cases c1 : v.1 = 0
  · rw [if_neg (fun u => u c1)] at h
    refine ⟨c1, Classical.byContradiction (fun u => ?_)⟩
    rw [if_pos u] at h
    exact absurd h (by simp)
  · rw [if_pos c1] at h
    exact absurd h c1
theorem x_TR_settleVar (hF : FMx G) (h : TX M z q w T A B D N C n p O P K Ab Be Cm V F ns sf ef c cnt L) (hv : vrS M q A n p L sl a nw V) (h8 : mI M q 8 = 0 → rvR M q O P F ns L sl 0 ∧ rvR M q O P F ns L sl 1) (h7 : mI M q 7 ≠ 0 → rvR M q O P F ns L sl 2) (hf : FT M (q + 1) ft) (cs : ft.1 = 0 → CSm M q p s) (r01 : ft.1 = 0 → mI M q 8 = 0 → rwE W pl cv q p O P sl 0 x0 y0 0 M ∧ rwE W pl cv q p O P sl 1 x1 y1 0 M) (r2 : ft.1 = 0 → mI M q 7 ≠ 0 → rwE W pl cv q p O P sl 2 x2 y2 (mI M q 8) M) (hlo : lo = vlq W cv pl 0 0 x0 y0) (hhi : hi = vlq W cv pl 0 0 x1 y1) (hbe : be = vlq W cv pl 0 0 x2 y2) (hs0 : ft.1 ≠ 0 → s'.2.2 = ft) (hs1 : ft.1 = 0 → (sv9 (mI M q 8) (mI M q 7) lo hi be (pl x0) (pl x1) (pl x2)).1 ≠ 0 → s'.2.2 = sv9 (mI M q 8) (mI M q 7) lo hi be (pl x0) (pl x1) (pl x2)) (hs2 : ft.1 = 0 → (sv9 (mI M q 8) (mI M q 7) lo hi be (pl x0) (pl x1) (pl x2)).1 = 0 → s' = svN s nw (mI M q 8)) : Cv G y_TR_settleVar (d + 6) [vr q] M (fun M' => itE M z q w T A B D N C n p O P K Ab Be Cm M' ∧ itZ q p s' M' ∧ mI M' (q + 1) 2 = ((a : Nat) : Int) ∧ (s'.2.2.1 = 0 → svD p O P V L (if mI M q 8 = 1 then 0 else lo.2.1) (if mI M q 8 = 1 then 1 else hi.2.1) (if mI M q 7 = 0 then (if mI M q 8 = 1 then 0 else lo.2.1) else be.2.1) M M')) := by
  have hs : svS M z q w T A B D N C n p O P K Ab Be Cm V F ns sf ef c cnt L sl a nw M := ⟨Ab, Be, Cm, h, trF.refl, hv, h8, h7⟩
  obtain ⟨ok, t0, t1, k4, t2, k5, kA, nA, t6, k22, n22⟩ := hs.pl
  have h801 : mI M q 8 = 0 ∨ mI M q 8 = 1 := hv.2.2.2.2.2.2.2.2.2.2.1
  by_cases f0 : ft.1 = 0
  · have cs := cs f0
    have r01 := r01 f0
    have r2 := r2 f0
    have hs1 := hs1 f0
    have hs2 := hs2 f0
    have f3 : mI M (q + 1) 3 = 0 := by rw [hf.1]; exact f0
    have kk : svK q p O P s.1 M M := ⟨cs.1, rfl, ⟨rfl, rfl⟩, ⟨rfl, rfl, rfl⟩, rfl, rfl, fun _ _ _ => rfl⟩
    refine k_TR_settleVar ok ?_
    refine ⟨t0, by rw [t1]; exact k4, fun y => ?_, fun y => ?_⟩
    rotate_left
    · rw [t1] at y
      have t8 : mI M q 8 = 1 := h801.resolve_left (fun u => y ⟨f3, u⟩)
      have e9 : sv9 (mI M q 8) (mI M q 7) lo hi be (pl x0) (pl x1) (pl x2) = fst9 (0, 0) (sv2 (mI M q 7) be 0 1 (pl x2)) := by
        unfold sv9 sv2
        rw [if_pos t8, if_pos t8]
        by_cases i7 : mI M q 7 = 0
        · rw [if_pos i7, if_pos i7]
        · rw [if_neg i7, if_neg i7, fst9_0, fst9_0]
          by_cases wz : (wh9 be (pl x2)).1 = 0
          · have g := (r2 i7).gd
            rw [← hbe, t8] at g
            obtain ⟨z1, z2⟩ := wh9_z wz
            have g2 := (g.resolve_right (fun u => by omega)).2.2.2.2 rfl
            have ew : wh9 be (pl x2) = (0, 0) := by
              unfold wh9
              rw [if_neg (fun u => u z1), if_neg (fun u => u z2)]
            rw [ew, if_pos (by omega), fst9_0]
          · rw [fst9_n wz]
      exact x_sv106 (ft := (0, 0)) (x2 := x2) (y2 := y2) (fun _ => by rw [if_pos t8, if_pos t8]; exact ⟨rfl, rfl, rfl⟩) hF (i32s (by omega) (by omega)) (i32s (by omega) (by omega)) cs hs kk (FT.zz f3) (fun _ => by omega) (fun _ u => r2 u) hbe e9 hs1 hs2
    rw [t1] at y
    obtain ⟨r0, r1⟩ := r01 y.2
    have g0 := r0.gd
    have g1 := r1.gd
    rw [← hlo] at g0
    rw [← hhi] at g1
    have p1 := r1.p22
    have e9 : sv9 (mI M q 8) (mI M q 7) lo hi be (pl x0) (pl x1) (pl x2) = fst9 (fst9 (fst9 (wh9 lo (pl x0)) (wh9 hi (pl x1))) (sv1 lo.2.1 hi.2.1 (pl x1))) (sv2 (mI M q 7) be lo.2.1 hi.2.1 (pl x2)) := by
      unfold sv9 sv1 sv2
      rw [y.2, if_neg (show ¬ (0:Int) = 1 by decide), if_neg (show ¬ (0:Int) = 1 by decide)]
    generalize eF : sv9 (mI M q 8) (mI M q 7) lo hi be (pl x0) (pl x1) (pl x2) = ff at hs1 hs2 e9
    refine (x_sv_works (k := 0) hF (by omega) hs kk (FT.zz f3) r0).mono (fun x8 M7 k => ?_)
    rw [← hlo] at k
    obtain ⟨i8, o7, h7', k7, wv⟩ := k
    obtain ⟨-, u0, u1, w4, u2, w5, uA, vA, u6, w22, m22⟩ := h7'.pl
    refine ⟨i8, o7, fun _ => ⟨u0, by rw [u2]; exact w5, by rw [u2]; exact uA, ⟨by omega, by rw [u2]; exact vA⟩⟩, fun v15 e15 => ?_⟩
    have i15 : i32 v15 := by
      rw [e15]
      split
      · exact i32s (by omega) (by omega)
      · exact (o7 _ _).1
    rw [u2] at e15
    rcases wv with ⟨z0, z1, z2⟩ | ⟨z0, z1, z2, z3, z4⟩
    · rw [fst9_n z1, fst9_n z1, fst9_n z1] at e9
      refine ⟨u0, by rw [u1]; exact w4, fun y3 => ?_, fun _ => ?_⟩
      · rw [u1] at y3
        exact absurd (by rw [← z2.1]; exact y3) z1
      · exact x_sv76 (ft := wh9 lo (pl x0)) (x1 := x1) (x2 := x2) (y2 := y2) (tr := mI M q 8) (fun u => absurd (by rw [e9] at u; exact u) z1) hF i15 i15 cs h7' k7 z2 (fun u => absurd u z1) (fun u => absurd u z1) (fun u => absurd u z1) hbe (by rw [fst9_n z1, fst9_n z1]; exact e9) hs1 hs2
    · rw [if_neg (by omega), z4] at e15
      have ew : wh9 lo (pl x0) = (0, 0) := by
        obtain ⟨w1, w2⟩ := wh9_z z1
        unfold wh9
        rw [if_neg (fun u => u w1), if_neg (fun u => u w2)]
      rw [ew, fst9_0] at e9
      have b0 : v15.natAbs ≤ 999999999 := by rw [e15]; exact (g0.un z2).1
      refine ⟨u0, by rw [u1]; exact w4, fun y3 => ?_, fun y3 => ?_⟩
      rotate_left
      · rw [u1] at y3
        exact absurd z3.1 y3
      refine (x_sv_works (k := 1) hF (by omega) h7' k7 z3 r1).mono (fun x23 M22 k => ?_)
      rw [← hhi] at k
      obtain ⟨i23, o22, h22, k22', wv⟩ := k
      obtain ⟨-, a0, a1, b4, a2, b5, aA, bA, a6, b22, c22⟩ := h22.pl
      rcases wv with ⟨s0, s1, s2⟩ | ⟨s0, s1, s2, s3, s4⟩
      · rw [fst9_n s1, fst9_n s1] at e9
        exact ⟨i23, o22, fun _ => x_sv76 (ft := wh9 hi (pl x1)) (x1 := x1) (x2 := x2) (y2 := y2) (tr := mI M q 8) (fun u => absurd (by rw [e9] at u; exact u) s1) hF i15 i15 cs h22 k22' s2 (fun u => absurd u s1) (fun u => absurd u s1) (fun u => absurd u s1) hbe (by rw [fst9_n s1, fst9_n s1]; exact e9) hs1 hs2, fun u => absurd s0 u⟩
      · have eh : wh9 hi (pl x1) = (0, 0) := by
          obtain ⟨w1, w2⟩ := wh9_z s1
          unfold wh9
          rw [if_neg (fun u => u w1), if_neg (fun u => u w2)]
        rw [eh] at e9
        refine ⟨i23, o22, fun u => absurd u (by omega), fun _ => ⟨a0, by rw [a2]; exact b5, by rw [a2]; exact aA, ⟨by omega, by rw [a2]; exact bA⟩, ?_⟩⟩
        rw [a2]
        refine x_sv76 (ft := (0, 0)) (x1 := x1) (x2 := x2) (y2 := y2) (tr := mI M q 8) (fun _ => by rw [if_neg (show ¬ mI M q 8 = 1 by first | rfl | omega), if_neg (show ¬ mI M q 8 = 1 by first | rfl | omega), e15, s4]; exact ⟨rfl, rfl, rfl⟩) hF i15 (o22 _ _).1 cs h22 k22' s3 (fun _ => ⟨b0, by rw [s4]; exact (g1.un s2).1⟩) (fun _ => p1) (fun _ u => r2 u) hbe ?_ hs1 hs2
        rw [s4, e15]
        exact e9
  · have f3 : mI M (q + 1) 3 ≠ 0 := by rw [hf.1]; exact f0
    have es := hs0 f0
    obtain ⟨v1, v2, v3, v4, v5, v6, -⟩ := hv
    have fin : itE M z q w T A B D N C n p O P K Ab Be Cm M ∧ itZ q p s' M ∧ mI M (q + 1) 2 = ((a : Nat) : Int) ∧ (s'.2.2.1 = 0 → svD p O P V L (if mI M q 8 = 1 then 0 else lo.2.1) (if mI M q 8 = 1 then 1 else hi.2.1) (if mI M q 7 = 0 then (if mI M q 8 = 1 then 0 else lo.2.1) else be.2.1) M M) := ⟨⟨Ab, Be, Cm, V, F, ns, sf, ef, c, cnt, sl, a, h.any (fun _ => v2), v1, v4, v5, v3, v6, trF.refl⟩, itZ.bad (by rw [es]; exact hf) (by rw [es]; exact f0), v4, fun t => absurd t (by rw [es]; exact f0)⟩
    refine k_TR_settleVar ok ⟨t0, by rw [t1]; exact k4, fun y => absurd (by rw [t1] at y; exact y.1) f3, fun _ => ?_⟩
    refine k_TR_settleVar_106 ok (i32s (by omega) (by omega)) (i32s (by omega) (by omega)) ⟨t0, by rw [t1]; exact k4, fun _ => ⟨fun u => absurd u (by omega), fun _ => ?_⟩, fun y => absurd (Or.inl (by rw [t1]; exact f3)) y⟩
    exact k_TR_settleVar_171 ok (i32s (by omega) (by omega)) (i32s (by omega) (by omega)) (i32s (by omega) (by omega)) ⟨t0, by rw [t1]; exact k4, fun y => absurd (by rw [t1] at y; exact y) f3, fun _ => fin⟩
end TXN
end
section
/-! The class's reader of texts, exactly: sets: bits of the vars that are set, names, one step of the pure sets. -/
theorem i_or9 {l m : Nat} (hl : l < 2147483648) (hm : m < 2147483648) : orI (l : Int) (m : Int) = ((l ||| m : Nat) : Int) := by
  unfold orI
  show (BitVec.ofInt 32 (l : Int) ||| BitVec.ofInt 32 (m : Int)).toInt = _
  have hb : ∀ x : Nat, x < 2147483648 → (BitVec.ofInt 32 (x : Int)).toNat = x := fun x hx => by
    rw [BitVec.toNat_ofInt]
    show ((x : Int) % 4294967296).toNat = x
    omega
  have hx : l ||| m < 2147483648 := Nat.or_lt_two_pow (n := 31) hl hm
  rw [BitVec.toInt_eq_toNat_cond, BitVec.toNat_or, hb l hl, hb m hm, if_pos (by omega)]
/-- the bit u of l -/
def sbt (l u : Nat) : Prop := l / 2 ^ u % 2 = 1
theorem sb_or {l u v : Nat} : sbt (l ||| 2 ^ v) u ↔ (sbt l u ∨ v = u) := by
  have h := Nat.testBit_or l (2 ^ v) u
  rw [Nat.testBit_eq_decide_div_mod_eq, Nat.testBit_eq_decide_div_mod_eq, Nat.testBit_two_pow, ← Bool.decide_or] at h
  exact decide_eq_decide.mp h
theorem sb_lt {l v : Nat} (hl : l < 4096) (hv : v < 12) : l ||| 2 ^ v < 4096 := Nat.or_lt_two_pow (n := 12) hl (Nat.pow_lt_pow_right (by decide) hv)
theorem sb_shl {v : Nat} (hv : v < 12) : shlI 1 (v : Int) = ((2 ^ v : Nat) : Int) := by
  have h : ∀ v, v < 12 → shlI 1 ((v : Nat) : Int) = ((2 ^ v : Nat) : Int) := by decide
  exact h v hv
theorem sb_and {l v : Nat} (hl : l < 4096) (hv : v < 12) : andI (shrI (l : Int) (v : Int)) 1 = 0 ↔ ¬ sbt l v := by
  rw [i_shr v (by omega) ⟨by omega, by omega⟩, i_and 1 (by decide) 1 (by decide) ⟨by decide, by decide⟩]
  have e : (l : Int) / 2 ^ v % 2 ^ 1 = ((l / 2 ^ v % 2 : Nat) : Int) := by norm_cast
  rw [e]
  unfold sbt
  omega
section TXO
variable {G : mG} {d z r q w T A B D N C n p O P K c V F k f i a : Nat} {M M' : mM} {ns : Nat → Int} {W pl nq : Nat → Int} {sm : Nat → Nat → Prop} {nms : List nm9} {seen : List Nat} {e : nm9}
theorem sefc_none (h : fnd9 sm nms (k + 1) = none) : sef W pl sm N nms (f + 1) k seen = ((2, pl (k + 1)), k) := by
  unfold sef
  rw [h]
theorem sefc_some (h : fnd9 sm nms (k + 1) = some e) : sef W pl sm N nms (f + 1) k seen = if e.2.1 ≠ 3 then ((2, pl (k + 1)), k) else if e.1 ∈ seen then ((4, pl (k + 1)), k) else if (rf9 W pl sm nms 0 e.2.2.1 (k + 4) (cpq W (k + 4) N)).1 ≠ 0 then (rf9 W pl sm nms 0 e.2.2.1 (k + 4) (cpq W (k + 4) N), k) else if W (cpq W (k + 4) N + 1) = 29 then sef W pl sm N nms f (cpq W (k + 4) N + 2) (e.1 :: seen) else ((0, 0), cpq W (k + 4) N + 1) := by
  conv => lhs; unfold sef
  rw [h]
/-- the first name of its word -/
def fst1 (nms : List nm9) (i : Nat) (e : nm9) : Prop := nms[i]? = some e ∧ ∀ (j : Nat) (e' : nm9), j < i → nms[j]? = some e' → e'.1 ≠ e.1
/-- which vars have been set -/
def snq (M : mM) (r : Nat) (nms : List nm9) (l : Nat) (seen : List Nat) : Prop := ∀ (i : Nat) (e : nm9), fst1 nms i e → e.2.1 = 3 → (sbt l (mI M (r + 8) i).toNat ↔ e.1 ∈ seen)
theorem snq.nil : snq M r nms 0 [] := fun i e _ _ => by
  unfold sbt
  simp
theorem snq.add {l v : Nat} (h : snq M r nms l seen) (ct : CT M r p nms) (tn : TN M r A n V F ns c) (hl : nms.length = c) (h1 : fst1 nms i e) (h3 : e.2.1 = 3) (hv : mI M (r + 8) i = (v : Int)) : snq M r nms (l ||| 2 ^ v) (e.1 :: seen) := fun j e' j1 j3 => by
  have jc : j < c := by rw [← hl]; exact (List.getElem?_eq_some_iff.mp j1.1).1
  have j0 : 0 ≤ mI M (r + 8) j := by
    obtain ⟨-, u, -⟩ := tn.2.2 j jc
    rcases u with u | u
    · exact u.2.1
    · exact u.2.1
  rw [sb_or, h j e' j1 j3, List.mem_cons]
  have key : v = (mI M (r + 8) j).toNat ↔ e'.1 = e.1 := by
    refine ⟨fun u => ?_, fun u => ?_⟩
    · have : j = i := (ct.2 i e h1.1).2.2.2.2.2.1 h3 j e' j1.1 j3 (by rw [hv, u, Int.toNat_of_nonneg j0])
      subst this
      have ee := j1.1.symm.trans h1.1
      rw [Option.some.inj ee]
    · have : j = i := by
        rcases Nat.lt_trichotomy j i with y | y | y
        · exact absurd u (h1.2 j e' y j1.1)
        · exact y
        · exact absurd u.symm (j1.2 i e y h1.1)
      rw [this, hv, Int.toNat_natCast]
  rw [key]
  exact Or.comm
/-- what find finds is the first of its word -/
theorem fm_fst {v : Nat} (ct : CT M r p nms) (h : fm M r T B D nms.length v i) (z : nms[i]? = some e) : fst1 nms i e := by
  refine ⟨z, fun j e' hj z' u => ?_⟩
  refine h.2.2 j hj ?_
  rw [(ct.2 j e' z').1, u, ← (ct.2 i e z).1]
  exact h.2.1
/-- varOf, exactly -/
theorem x_RR_varOf {v : Nat} (h : RB M z r w T A B D N C n p O P K) (nk : NK M r A n V F ns c) (hv : v < n) (h2 : mI M A v = 2) (h6 : mI M r 6 = 0) : Ci G y_RR_varOf (d + 2) [vr r, vi v] M (fun x M' => M' = M ∧ (x = -1 ∨ (0 ≤ x ∧ x < V)) ∧ ((nmn M r T B D c v ∧ x = -1) ∨ ∃ i : Nat, fm M r T B D c v i ∧ x = if mI M (r + 7) i = 5 then mI M (r + 8) i else -1)) := by
  obtain ⟨-, ⟨k0, ⟨-, -, -, -, -, -, q16, q17, q18⟩, ⟨-, -, -, -, -, -, kk7, kk8, kk9⟩, ⟨-, -, -, -, -, -, nn7, nn8, nn9⟩⟩, -⟩ := id h
  have hn := h.2.2.2.1.2.2.1
  have hN := h.2.2.2.1.1.2.2.2.2.2.2.1
  refine k_RR_varOf h.1 (i32s (by omega) (by omega)) ⟨k0, (x_RR_find h nk hv h2).mono (fun x3 M2 q => ?_)⟩
  obtain ⟨e2, hx⟩ := q
  subst e2
  rw [q16, q17, nn7, nn8]
  have hc := nk.2.1
  have hx0 : x3 = -1 ∨ ∃ i : Nat, x3 = i ∧ i < c := hx.imp (fun u => u.1) (fun ⟨i, u, v⟩ => ⟨i, u, v.1⟩)
  have hi3 : i32 x3 := by
    clear hx
    rcases hx0 with u | ⟨i, u, hi⟩ <;> rw [u] <;> exact i32s (by omega) (by omega)
  have rng : x3 ≠ -1 → (0 : Int) ≤ x3 ∧ x3 < ((72 : Nat) : Int) := fun y => by
    clear hx
    rcases hx0 with u | ⟨i, u, hi⟩
    · exact absurd u y
    · omega
  refine ⟨hi3, h.1, fun y => ⟨k0, kk7, rng y, fun _ => ⟨kk8, rng y⟩⟩, fun v12 e12 => ⟨rfl, ?_, ?_⟩⟩
  · clear hx0
    rcases hx with ⟨u, -⟩ | ⟨i, u, hi⟩
    · rw [if_pos (Or.inl u)] at e12
      exact Or.inl e12
    · rw [u, Int.toNat_natCast] at e12
      by_cases y : mI M2 (r + 7) i = 5
      · rw [if_neg (fun q => q.elim (fun v => by omega) (fun v => v y))] at e12
        rcases (nk.2.2 i hi.1).2.1 with ⟨-, v1, v2⟩ | ⟨v0, -⟩ | ⟨v0, -⟩
        · rw [e12]
          exact Or.inr ⟨v1, v2 h6⟩
        · exact absurd y (by omega)
        · exact absurd y (by omega)
      · rw [if_pos (Or.inr y)] at e12
        exact Or.inl e12
  · clear hx0
    rcases hx with ⟨u, u2⟩ | ⟨i, u, hi⟩
    · rw [if_pos (Or.inl u)] at e12
      exact Or.inl ⟨u2, e12⟩
    · rw [u, Int.toNat_natCast] at e12
      refine Or.inr ⟨i, hi, ?_⟩
      by_cases y : mI M2 (r + 7) i = 5
      · rw [if_neg (fun q => q.elim (fun v => by omega) (fun v => v y))] at e12
        rw [if_pos y]
        exact e12
      · rw [if_pos (Or.inr y)] at e12
        rw [if_neg y]
        exact e12
theorem x_RR_kindOf {v : Nat} (h : RB M z r w T A B D N C n p O P K) (nk : NK M r A n V F ns c) (hv : v < n) (h2 : mI M A v = 2) : Ci G y_RR_kindOf (d + 2) [vr r, vi v] M (fun x M' => M' = M ∧ (0 ≤ x ∧ x ≤ 2) ∧ ((nmn M r T B D c v ∧ x = 0) ∨ ∃ i : Nat, fm M r T B D c v i ∧ x = if mI M (r + 9) i = 0 then 1 else 2)) := by
  obtain ⟨-, ⟨k0, ⟨-, -, -, -, -, -, q16, q17, q18⟩, ⟨-, -, -, -, -, -, kk7, kk8, kk9⟩, ⟨-, -, -, -, -, -, nn7, nn8, nn9⟩⟩, -⟩ := id h
  have hn := h.2.2.2.1.2.2.1
  have hN := h.2.2.2.1.1.2.2.2.2.2.2.1
  refine k_RR_kindOf h.1 (i32s (by omega) (by omega)) ⟨k0, (x_RR_find h nk hv h2).mono (fun x3 M2 q => ?_)⟩
  obtain ⟨e2, hx⟩ := q
  subst e2
  rw [q18, nn9]
  have hc := nk.2.1
  have hx0 : x3 = -1 ∨ ∃ i : Nat, x3 = i ∧ i < c := hx.imp (fun u => u.1) (fun ⟨i, u, v⟩ => ⟨i, u, v.1⟩)
  have hi3 : i32 x3 := by
    clear hx
    rcases hx0 with u | ⟨i, u, hi⟩ <;> rw [u] <;> exact i32s (by omega) (by omega)
  refine ⟨hi3, h.1, fun y => ⟨k0, kk9, ?_⟩, fun v12 e12 => ⟨rfl, ?_, ?_⟩⟩
  · clear hx
    rcases hx0 with u | ⟨i, u, hi⟩
    · exact absurd u y
    · omega
  · clear hx hx0
    rw [e12]
    (repeat' split) <;> omega
  · clear hx0
    rcases hx with ⟨u, u2⟩ | ⟨i, u, hi⟩
    · rw [if_pos u] at e12
      exact Or.inl ⟨u2, e12⟩
    · rw [u, if_neg (by omega), Int.toNat_natCast] at e12
      exact Or.inr ⟨i, hi, e12⟩
end TXO
end
end
section
section
/-! The class's reader of texts: where the orders of sets, chances and guards lie. -/
/-- a set is sound -/
def sOk (W pl : Nat → Int) (sm : Nat → Nat → Prop) (n V : Nat) (nms : List nm9) (q' : Nat × Nat × Nat × Nat) : Prop := Eo W 6 q'.2.1 q'.2.2.1 ∧ q'.2.2.1 ≤ n ∧ (fl W (E9 sm nms 0) pl 0 q'.2.1 q'.2.2.1).1 = 0 ∧ q'.1 < V ∧ 0 ≤ pl q'.2.2.2 ∧ pl q'.2.2.2 ≤ 16384
/-- the sets of a branch whose first word behind ':' is k0 -/
noncomputable def sll (W : Nat → Int) (sm : Nat → Nat → Prop) (Nn : Nat) (nms : List nm9) (k0 : Nat) : List (Nat × Nat × Nat × Nat) := if W k0 = 10 then [] else sel9 W sm Nn nms Nn k0
/-- i sets have been read, the next begins at the word k: their orders lie from S0 on -/
def seL (W pl nq : Nat → Int) (sm : Nat → Nat → Prop) (Nn n V : Nat) (Mc : mM) (q p O P c k0 S0 : Nat) (nms : List nm9) (i k : Nat) (M : mM) : Prop := CT Mc (q + 1) p nms → nms.length = c → mI M (q + 1) 3 = 0 → ∃ (l : List (Nat × Nat × Nat × Nat)) (s9 : Nat), mI M p 2 = ((s9 : Nat) : Int) ∧ sel9 W sm Nn nms Nn k0 = l ++ sel9 W sm Nn nms (Nn - i) k ∧ Scw (LfC W nq sm n nms) W pl (mI M O) (mI M P) l S0 s9 ∧ ∀ q', q' ∈ l → sOk W pl sm n V nms q'
/-- all sets have been read -/
def seM (W pl nq : Nat → Int) (sm : Nat → Nat → Prop) (Nn n V : Nat) (Mc : mM) (q p O P c k0 S0 : Nat) (nms : List nm9) (M : mM) : Prop := CT Mc (q + 1) p nms → nms.length = c → mI M (q + 1) 3 = 0 → ∃ s9 : Nat, mI M p 2 = ((s9 : Nat) : Int) ∧ Scw (LfC W nq sm n nms) W pl (mI M O) (mI M P) (sll W sm Nn nms k0) S0 s9 ∧ ∀ q', q' ∈ sll W sm Nn nms k0 → sOk W pl sm n V nms q'
/-- and their end is put behind them -/
def seE (W pl nq : Nat → Int) (sm : Nat → Nat → Prop) (Nn n V : Nat) (Mc : mM) (q p O P c k0 S0 : Nat) (nms : List nm9) (M : mM) : Prop := CT Mc (q + 1) p nms → nms.length = c → mI M (q + 1) 3 = 0 → ∃ s9 : Nat, mI M p 2 = ((s9 + 1 : Nat) : Int) ∧ mI M O s9 = 0 ∧ Scw (LfC W nq sm n nms) W pl (mI M O) (mI M P) (sll W sm Nn nms k0) S0 s9 ∧ ∀ q', q' ∈ sll W sm Nn nms k0 → sOk W pl sm n V nms q'
/-- a chance's orders and place are put down -/
def chD (W pl nq : Nat → Int) (sm : Nat → Nat → Prop) (Cf : Nat → Int × Int) (q p O P n c L ix a j : Nat) (nms : List nm9) (M M' : mM) : Prop := (mI M' (q + 1) 3 = 0 → (∀ i, 3 ≤ i → i ≤ 12 → mI M' (p + i) = mI M (p + i)) ∧ mI M' p 11 = mI M p 11 ∧ ∃ v e : Nat, mI M (p + 12) (ix + 1) = ((v : Nat) : Int) ∧ (∀ t, mI M' (p + 13) t = (if t = v then pl a else mI M (p + 13) t) ∧ mI M' (p + 14) t = (if t = v then ((L : Nat) : Int) else mI M (p + 14) t) ∧ mI M' (p + 15) t = (if t = v then ((e + 1 : Nat) : Int) else mI M (p + 15) t)) ∧ mI M' p 2 = ((e + 1 : Nat) : Int) ∧ mI M' O e = 0 ∧ Cd W Cf pl (mI M' O) (mI M' P) 0 0 0 a j L e ∧ cdE O P L M M') ∧ (CT M (q + 1) p nms → nms.length = c → LfC W nq sm n nms Cf)
section TXO1
variable {p n c r : Nat} {M : mM} {W nq E : Nat → Int} {Cf : Nat → Int × Int} {sm : Nat → Nat → Prop} {nms : List nm9}
/-- the orders of words, where all names may stand -/
theorem ECq.lf (ec : ECq M r p n W nq sm nms c 0 E Cf) (ct : CT M r p nms) (hl : nms.length = c) (hk : ∀ i, i < c → mI M (r + 9) i = 0 ∨ mI M (r + 9) i = 1) : LfC W nq sm n nms Cf := by
  obtain ⟨big, ec⟩ := ec
  obtain ⟨eE, ec⟩ := ec ct hl
  rw [if_pos rfl] at eE
  refine ⟨big, fun k kn => ?_⟩
  obtain ⟨c2, c12, c13, c1⟩ := ec k kn
  refine ⟨c2, c12, c13, fun h1 l1 e l2 he hs hno => ?_⟩
  have gl : nms[l1.length]? = some e := by
    rw [he, List.getElem?_append_right (Nat.le_refl _), Nat.sub_self]
    rfl
  have ne : E k ≠ -1 := by
    have fe : fnd9 sm nms k = some e := by
      unfold fnd9
      rw [List.find?_eq_some_iff_append]
      exact ⟨by simpa using hs, l1, l2, he, fun a ha => by simpa using hno a ha⟩
    rw [eE]
    unfold E9
    rw [fe]
    show (if (0 : Int) = 1 ∧ e.2.1 ≠ 1 then (-1 : Int) else e.2.2.1) ≠ -1
    rw [if_neg (fun u => absurd u.1 (by decide)), ← (ct.2 _ e gl).2.2.2.1]
    have := hk l1.length (by rw [← hl, he, List.length_append, List.length_cons]; omega)
    omega
  obtain ⟨i, e', z1, z2, -, z4, z5⟩ := c1 h1 ne
  have se' : sm e'.1 k := (fnd_sp z2).elim (fun _ ⟨_, _, q, _⟩ => q)
  have ii : i = l1.length := by
    rcases Nat.lt_trichotomy i l1.length with y | y | y
    · rw [he, List.getElem?_append_left y] at z1
      exact absurd se' (hno e' (List.mem_of_getElem? z1))
    · exact y
    · exact absurd hs (z5 _ e y gl)
  subst ii
  rw [gl] at z1
  have ee := Option.some.inj z1
  subst ee
  obtain ⟨-, t2, -, -, -, -, t7⟩ := ct.2 _ e gl
  have tk : nms.take l1.length = l1 := by rw [he, List.take_left]
  rw [z4, t2, t7, tk]
end TXO1
section TXO2
variable {W pl nq : Nat → Int} {sm : Nat → Nat → Prop} {Nn n V q p O P c k0 S0 i k j : Nat} {Mc M M' : mM} {nms : List nm9} {e : nm9}
theorem twt9 {P9 : nm9 → Bool} : ∀ (l : List nm9) (j : Nat) (e : nm9), l[j]? = some e → P9 e = false → (∀ (j' : Nat) (e' : nm9), j' < j → l[j']? = some e' → P9 e' = true) → l.takeWhile P9 = l.take j
  | [], j, e, h, _, _ => absurd h (by simp)
  | a :: l, 0, e, h, h1, _ => by
    have : a = e := Option.some.inj h
    subst this
    rw [List.takeWhile_cons, h1]
    rfl
  | a :: l, j + 1, e, h, h1, h2 => by
    have ha := h2 0 a (by omega) rfl
    rw [List.takeWhile_cons, ha, List.take_succ_cons]
    show a :: l.takeWhile P9 = _
    rw [twt9 l j e h h1 (fun j' e' hj z => h2 (j' + 1) e' (by omega) z)]
theorem vix_at (h : nms[j]? = some e) (h1 : sm e.1 k) (h2 : ∀ (j' : Nat) (e' : nm9), j' < j → nms[j']? = some e' → ¬ sm e'.1 k) : vix9 sm nms k = vcn (nms.take j) := by
  unfold vix9
  rw [twt9 nms j e h (by simpa using h1) (fun j' e' hj z => by simpa using h2 j' e' hj z)]
theorem seL.cg (h : seL W pl nq sm Nn n V Mc q p O P c k0 S0 nms i k M) (h3 : mI M' (q + 1) 3 = 0 → mI M (q + 1) 3 = 0) (hp : mI M' p 2 = mI M p 2) (hO : mI M' O = mI M O) (hP : mI M' P = mI M P) : seL W pl nq sm Nn n V Mc q p O P c k0 S0 nms i k M' := fun ct hl y => by
  obtain ⟨l, s9, a1, a2, a3, a4⟩ := h ct hl (h3 y)
  exact ⟨l, s9, by rw [hp]; exact a1, a2, by rw [hO, hP]; exact a3, a4⟩
/-- one set more -/
theorem seL.next {Cf : Nat → Int × Int} {s9 e9 a' : Nat} (h : seL W pl nq sm Nn n V Mc q p O P c k0 S0 nms i k M) (h3 : mI M' (q + 1) 3 = 0 → mI M (q + 1) 3 = 0) (hp : mI M p 2 = ((s9 : Nat) : Int)) (hp' : mI M' p 2 = ((e9 + 1 : Nat) : Int)) (hc : ∀ t, t < s9 → mI M' O t = mI M O t ∧ mI M' P t = mI M P t) (hi : i < Nn) (hk : W k0 ≠ 10) (cp : cpq W (k + 4) Nn = a') (hx : CT Mc (q + 1) p nms → nms.length = c → mI M' (q + 1) 3 = 0 → LfC W nq sm n nms Cf ∧ Cd W Cf pl (mI M' O) (mI M' P) 0 0 0 (k + 4) a' s9 e9 ∧ mI M' O e9 = 43 ∧ mI M' P e9 = pl k * 16 + ((vix9 sm nms (k + 1) : Nat) : Int) ∧ sOk W pl sm n V nms (vix9 sm nms (k + 1), k + 4, a', k)) : (W (a' + 1) = 29 → seL W pl nq sm Nn n V Mc q p O P c k0 S0 nms (i + 1) (a' + 2) M') ∧ (W (a' + 1) ≠ 29 → seM W pl nq sm Nn n V Mc q p O P c k0 S0 nms M') := by
  have key : CT Mc (q + 1) p nms → nms.length = c → mI M' (q + 1) 3 = 0 → ∃ l, sel9 W sm Nn nms Nn k0 = (l ++ [(vix9 sm nms (k + 1), k + 4, a', k)]) ++ (if W (a' + 1) = 29 then sel9 W sm Nn nms (Nn - (i + 1)) (a' + 2) else []) ∧ Scw (LfC W nq sm n nms) W pl (mI M' O) (mI M' P) (l ++ [(vix9 sm nms (k + 1), k + 4, a', k)]) S0 (e9 + 1) ∧ ∀ q', q' ∈ l ++ [(vix9 sm nms (k + 1), k + 4, a', k)] → sOk W pl sm n V nms q' := fun ct hl y => by
    obtain ⟨l, s9', a1, a2, a3, a4⟩ := h ct hl (h3 y)
    have es : s9' = s9 := by rw [hp] at a1; omega
    subst es
    obtain ⟨x1, x2, x3, x4, x5⟩ := hx ct hl y
    refine ⟨l, ?_, Scw.add (q := (vix9 sm nms (k + 1), k + 4, a', k)) x1 l (Scw.cg l a3 (fun t _ t2 => hc t t2)) x2 x3 x4, fun q' hq => ?_⟩
    · obtain ⟨f, hf⟩ : ∃ f, Nn - i = f + 1 := ⟨Nn - i - 1, by omega⟩
      rw [a2, hf, sel9, cp, show Nn - (i + 1) = f by first | rfl | omega, List.append_assoc]
      rfl
    · rcases List.mem_append.mp hq with u | u
      · exact a4 q' u
      · rw [List.mem_singleton.mp u]
        exact x5
  refine ⟨fun w29 ct hl y => ?_, fun w29 ct hl y => ?_⟩
  · obtain ⟨l, b1, b2, b3⟩ := key ct hl y
    rw [if_pos w29] at b1
    exact ⟨_, e9 + 1, hp', b1, b2, b3⟩
  · obtain ⟨l, b1, b2, b3⟩ := key ct hl y
    rw [if_neg w29, List.append_nil] at b1
    have e1 : sll W sm Nn nms k0 = l ++ [(vix9 sm nms (k + 1), k + 4, a', k)] := by
      unfold sll
      rw [if_neg hk, b1]
    refine ⟨e9 + 1, hp', ?_, ?_⟩
    · rw [e1]; exact b2
    · rw [e1]; exact b3
theorem seM.fin {s9 : Nat} (h : seM W pl nq sm Nn n V Mc q p O P c k0 S0 nms M) (h3 : mI M' (q + 1) 3 = 0 → mI M (q + 1) 3 = 0) (hp : mI M p 2 = ((s9 : Nat) : Int)) (hp' : mI M' p 2 = ((s9 + 1 : Nat) : Int)) (hc : ∀ t, t < s9 → mI M' O t = mI M O t ∧ mI M' P t = mI M P t) (h0 : mI M' O s9 = 0) : seE W pl nq sm Nn n V Mc q p O P c k0 S0 nms M' := fun ct hl y => by
  obtain ⟨s9', a1, a2, a3⟩ := h ct hl (h3 y)
  have es : s9' = s9 := by rw [hp] at a1; omega
  subst es
  exact ⟨s9', hp', h0, Scw.cg _ a2 (fun t _ t2 => hc t t2), a3⟩
end TXO2
end
section
/-! The class's reader of texts, exactly: the sets' faults, and one set. -/
section TXP
variable {G : mG} {d z q w T A B D N C n p O P K Ab Be Cm V F c s L cnt a s9 S0 k i k0 Nn a' : Nat} {M0 M M' M1 M2 Mc : mM} {ns : Nat → Int} {sf ef : Nat → Nat} {W pl nq E : Nat → Int} {sm : Nat → Nat → Prop} {nms : List nm9} {ft fS vR : Int × Int} {l2 l6 x : Int}
/-- the pure sets from the word k0 on -/
noncomputable abbrev sef0 (W pl : Nat → Int) (sm : Nat → Nat → Prop) (Nn : Nat) (nms : List nm9) (k0 : Nat) : (Int × Int) × Nat := sef W pl sm Nn nms Nn k0 []
/-- i sets have been read, the next begins at the word k; their fault fS, their vars l2 -/
def seK (W pl : Nat → Int) (sm : Nat → Nat → Prop) (Nn : Nat) (Mc : mM) (q p c k0 : Nat) (nms : List nm9) (fS : Int × Int) (l2 : Int) (i k : Nat) : Prop := CT Mc (q + 1) p nms → nms.length = c → (fS.1 ≠ 0 → (sef0 W pl sm Nn nms k0).1 = fS) ∧ (fS.1 = 0 → ∃ (l : Nat) (seen : List Nat), l2 = l ∧ l < 4096 ∧ snq Mc (q + 1) nms l seen ∧ sef0 W pl sm Nn nms k0 = sef W pl sm Nn nms (Nn - i) k seen)
/-- they are over at the word a -/
def seO (W pl : Nat → Int) (sm : Nat → Nat → Prop) (Nn : Nat) (Mc : mM) (q p c k0 : Nat) (nms : List nm9) (fS : Int × Int) (a : Nat) : Prop := CT Mc (q + 1) p nms → nms.length = c → (fS.1 ≠ 0 → (sef0 W pl sm Nn nms k0).1 = fS) ∧ (fS.1 = 0 → (sef0 W pl sm Nn nms k0).1.1 = 0 ∧ a = (sef0 W pl sm Nn nms k0).2)
def seNb (W pl : Nat → Int) (sm : Nat → Nat → Prop) (Nn : Nat) (Mc : mM) (q k0 : Nat) (nms : List nm9) (fS : Int × Int) (l2 l6 : Int) (i k : Nat) : Prop := (fS.1 ≠ 0 → (sef0 W pl sm Nn nms k0).1 = fS) ∧ (fS.1 = 0 → ∃ (l : Nat) (seen : List Nat) (j : Nat) (e : nm9), l2 = l ∧ l < 4096 ∧ snq Mc (q + 1) nms l seen ∧ sef0 W pl sm Nn nms k0 = sef W pl sm Nn nms (Nn - i) k seen ∧ fnd9 sm nms (k + 1) = some e ∧ fst1 nms j e ∧ e.2.1 = 3 ∧ e.1 ∉ seen ∧ l6 = mI Mc (q + 1 + 8) j ∧ l6 = ((vix9 sm nms (k + 1) : Nat) : Int))
/-- the next set's name has been read, its var is l6 -/
def seN (W pl : Nat → Int) (sm : Nat → Nat → Prop) (Nn : Nat) (Mc : mM) (q p c k0 : Nat) (nms : List nm9) (fS : Int × Int) (l2 l6 : Int) (i k : Nat) : Prop := CT Mc (q + 1) p nms → nms.length = c → seNb W pl sm Nn Mc q k0 nms fS l2 l6 i k
theorem srt9_5 {y : Nat} (h : 1 ≤ y ∧ y ≤ 3) : srt9 y = 5 ↔ y = 3 := by
  unfold srt9
  split
  · omega
  · split <;> omega
theorem seK.nm (h : seK W pl sm Nn Mc q p c k0 nms fS l2 i k) (hik : i ≤ k) (hN : n ≤ Nn) (hk : k + 1 < n) (ctM : CT Mc (q + 1) p nms → CT M (q + 1) p nms) (e8 : mI M (q + 1 + 8) = mI Mc (q + 1 + 8)) (wt : WTq M T A B D n W pl nq sm) (tn : TN M (q + 1) A n V F ns c) (V12 : V ≤ 12) (w1 : W (k + 1) = 1) (hx : (nmn M (q + 1) T B D c (k + 1) ∧ x = -1) ∨ ∃ i : Nat, fm M (q + 1) T B D c (k + 1) i ∧ x = if mI M (q + 1 + 7) i = 5 then mI M (q + 1 + 8) i else -1) : (x = -1 → seN W pl sm Nn Mc q p c k0 nms (fst9 fS (2, pl (k + 1))) l2 x i k) ∧ (x ≠ -1 → andI (shrI l2 x) 1 = 0 → seN W pl sm Nn Mc q p c k0 nms fS l2 x i k) ∧ (x ≠ -1 → andI (shrI l2 x) 1 ≠ 0 → seN W pl sm Nn Mc q p c k0 nms (fst9 fS (4, pl (k + 1))) l2 x i k) := by
  have key : CT Mc (q + 1) p nms → nms.length = c → (x = -1 → seNb W pl sm Nn Mc q k0 nms (fst9 fS (2, pl (k + 1))) l2 x i k) ∧ (x ≠ -1 → andI (shrI l2 x) 1 = 0 → seNb W pl sm Nn Mc q k0 nms fS l2 x i k) ∧ (x ≠ -1 → andI (shrI l2 x) 1 ≠ 0 → seNb W pl sm Nn Mc q k0 nms (fst9 fS (4, pl (k + 1))) l2 x i k) := fun ct hl => by
    obtain ⟨h1, h2⟩ := h ct hl
    by_cases f0 : fS.1 = 0
    · obtain ⟨l, seen, e2, l4, sn, es⟩ := h2 f0
      have es' := es
      obtain ⟨f, hf⟩ : ∃ f, Nn - i = f + 1 := ⟨Nn - i - 1, by
        clear hx h h1 h2
        omega⟩
      rw [hf] at es
      have cM := ctM ct
      have hw : ∀ i, i < nms.length → ∃ v : Nat, mI M (q + 1 + 6) i = v ∧ v < n ∧ mI M A v = 2 := fun i hi => (tn.2.2 i (by rw [← hl]; exact hi)).1
      rw [fst9_zr f0, fst9_zr f0]
      have bad : ∀ {y : Int}, y ≠ 0 → sef0 W pl sm Nn nms k0 = ((y, pl (k + 1)), k) → seNb W pl sm Nn Mc q k0 nms (y, pl (k + 1)) l2 x i k := fun {y} y0 u => ⟨fun _ => by rw [u], fun v => absurd v y0⟩
      rcases cM.fnd wt hw hk w1 with ⟨q1, q2⟩ | ⟨j, e, q1, q2, q3, q9⟩
      · rw [hl] at q1
        have ex : x = -1 := by
          rcases hx with u | ⟨j, u, -⟩
          · exact u.2
          · exact absurd u.2.1 (q1 j u.1)
        rw [sefc_none q2] at es
        exact ⟨fun _ => bad (by decide) es, fun u => absurd ex u, fun u => absurd ex u⟩
      · have f1 := fm_fst cM q1 q2
        rw [hl] at q1
        have ex : x = if mI M (q + 1 + 7) j = 5 then mI M (q + 1 + 8) j else -1 := by
          rcases hx with u | ⟨j', u, v⟩
          · exact absurd q1.2.1 (u.1 j q1.1)
          · rw [fm_un q1 u]
            exact v
        obtain ⟨-, s2, s3, -⟩ := cM.2 j e q2
        rw [sefc_some q3] at es
        by_cases e3 : e.2.1 = 3
        · have s5 : mI M (q + 1 + 7) j = 5 := by rw [s2]; exact (srt9_5 s3).mpr e3
          rw [if_pos s5] at ex
          have rg : 0 ≤ mI M (q + 1 + 8) j ∧ mI M (q + 1 + 8) j < V := by
            obtain ⟨-, u, -⟩ := tn.2.2 j q1.1
            rcases u with u | u
            · exact ⟨u.2.1, u.2.2⟩
            · rcases u.1 with v | v <;> rw [s5] at v <;> exact absurd v (by first | decide | simp)
          obtain ⟨v, hv⟩ : ∃ v : Nat, mI M (q + 1 + 8) j = v := ⟨(mI M (q + 1 + 8) j).toNat, by rw [Int.toNat_of_nonneg rg.1]⟩
          have v12 : v < 12 := by
            clear hx h h1 h2
            omega
          have vn : ((v : Nat) : Int) ≠ -1 := by
            clear hx h h1 h2
            omega
          rw [if_neg (fun u => u e3)] at es
          have sb := sn j e f1 e3
          rw [← e8, hv, Int.toNat_natCast] at sb
          have sb := (sb_and l4 v12).trans (not_congr sb)
          rw [← e2] at sb
          have vx : ((v : Nat) : Int) = ((vix9 sm nms (k + 1) : Nat) : Int) := by
            have t7 := (cM.2 j e q2).2.2.2.2.2.2
            rw [if_pos e3, hv] at t7
            rw [t7, vix_at q2 (by obtain ⟨_, _, _, qs, _⟩ := fnd_sp q3; exact qs) q9]
          rw [ex, hv]
          refine ⟨fun u => absurd u vn, fun _ u => ⟨fun u => absurd f0 u, fun _ => ⟨l, seen, j, e, e2, l4, sn, es', q3, f1, e3, sb.mp u, by rw [← e8, hv], vx⟩⟩, fun _ u => ?_⟩
          have mem : e.1 ∈ seen := Classical.byContradiction (fun z => u (sb.mpr z))
          rw [if_pos mem] at es
          have b := bad (y := 4) (by decide) es
          rw [ex, hv] at b
          exact b
        · have s5 : mI M (q + 1 + 7) j ≠ 5 := by
            rw [s2]
            exact fun u => e3 ((srt9_5 s3).mp u)
          rw [if_neg s5] at ex
          rw [if_pos e3] at es
          exact ⟨fun _ => bad (by decide) es, fun u => absurd ex u, fun u => absurd ex u⟩
    · rw [fst9_n f0, fst9_n f0]
      have all : seNb W pl sm Nn Mc q k0 nms fS l2 x i k := ⟨h1, fun u => absurd u f0⟩
      exact ⟨fun _ => all, fun _ _ => all, fun _ _ => all⟩
  exact ⟨fun u ct hl => (key ct hl).1 u, fun u v ct hl => (key ct hl).2.1 u v, fun u v ct hl => (key ct hl).2.2 u v⟩
theorem seN.next (h : seN W pl sm Nn Mc q p c k0 nms fS l2 l6 i k) (hik : i ≤ k) (hN : n ≤ Nn) (hk : k < n) (tn : TN Mc (q + 1) A n V F ns c) (V12 : V ≤ 12) (eo : Eo W 6 (k + 4) a') (w37 : W a' = 37) (ha' : a' < n) (hvr : CT Mc (q + 1) p nms → nms.length = c → ∀ e, fnd9 sm nms (k + 1) = some e → vR = rf9 W pl sm nms 0 e.2.2.1 (k + 4) a') : (W (a' + 1) = 29 → seK W pl sm Nn Mc q p c k0 nms (fst9 fS vR) (orI l2 (if l6 = -1 then 0 else shlI 1 l6)) (i + 1) (a' + 2)) ∧ (W (a' + 1) ≠ 29 → seO W pl sm Nn Mc q p c k0 nms (fst9 fS vR) (a' + 1)) := by
  have es9 : ∀ {e : nm9} {seen : List Nat}, CT Mc (q + 1) p nms → nms.length = c → sef0 W pl sm Nn nms k0 = sef W pl sm Nn nms (Nn - i) k seen → fnd9 sm nms (k + 1) = some e → e.2.1 = 3 → e.1 ∉ seen → sef0 W pl sm Nn nms k0 = if vR.1 ≠ 0 then (vR, k) else if W (a' + 1) = 29 then sef W pl sm Nn nms (Nn - (i + 1)) (a' + 2) (e.1 :: seen) else ((0, 0), a' + 1) := fun {e seen} ct hl es fe e3 nS => by
    have ev := hvr ct hl e fe
    have cp : cpq W (k + 4) Nn = a' := cpq_at eo w37 (by omega)
    obtain ⟨f, hf⟩ : ∃ f, Nn - i = f + 1 := ⟨Nn - i - 1, by omega⟩
    have hf2 : Nn - (i + 1) = f := by omega
    rw [hf, sefc_some fe, if_neg (fun u => u e3), if_neg nS, cp, ← ev] at es
    rw [hf2]
    exact es
  by_cases f0 : fS.1 = 0
  · rw [fst9_zr f0]
    refine ⟨fun w29 ct hl => ?_, fun w29 ct hl => ?_⟩
    · obtain ⟨l, seen, j, e, e2, l4, sn, es, fe, f1, e3, nS, e6, -⟩ := (h ct hl).2 f0
      have es := es9 ct hl es fe e3 nS
      refine ⟨fun v0 => by rw [es, if_pos v0], fun v0 => ?_⟩
      rw [if_neg (fun u => u v0), if_pos w29] at es
      have jc : j < c := by rw [← hl]; exact (List.getElem?_eq_some_iff.mp f1.1).1
      have s5 : mI Mc (q + 1 + 7) j = 5 := by
        obtain ⟨-, s2, s3, -⟩ := ct.2 j e f1.1
        rw [s2]
        exact (srt9_5 s3).mpr e3
      have rg : 0 ≤ mI Mc (q + 1 + 8) j ∧ mI Mc (q + 1 + 8) j < V := by
        obtain ⟨-, u, -⟩ := tn.2.2 j jc
        rcases u with u | u
        · exact ⟨u.2.1, u.2.2⟩
        · rcases u.1 with v | v <;> rw [s5] at v <;> exact absurd v (by first | decide | simp)
      obtain ⟨v, hv⟩ : ∃ v : Nat, mI Mc (q + 1 + 8) j = v := ⟨(mI Mc (q + 1 + 8) j).toNat, by rw [Int.toNat_of_nonneg rg.1]⟩
      have v12 : v < 12 := by
        clear h hvr
        omega
      have p12 : 2 ^ v < 2147483648 := Nat.lt_trans (Nat.pow_lt_pow_right (by decide) v12) (by decide)
      refine ⟨l ||| 2 ^ v, e.1 :: seen, ?_, sb_lt l4 v12, sn.add ct tn hl f1 e3 hv, es⟩
      rw [e2, e6, hv, if_neg (by omega), sb_shl v12, i_or9 (by omega) p12]
    · obtain ⟨l, seen, j, e, e2, l4, sn, es, fe, f1, e3, nS, e6, -⟩ := (h ct hl).2 f0
      have es := es9 ct hl es fe e3 nS
      refine ⟨fun v0 => by rw [es, if_pos v0], fun v0 => ?_⟩
      rw [if_neg (fun u => u v0), if_neg w29] at es
      exact ⟨by rw [es], by rw [es]⟩
  · rw [fst9_n f0]
    exact ⟨fun _ ct hl => ⟨(h ct hl).1, fun u => absurd u f0⟩, fun _ ct hl => ⟨(h ct hl).1, fun u => absurd u f0⟩⟩
/-- no ';' from k up to a -/
def no34 (W : Nat → Int) (k a : Nat) : Prop := k ≤ a ∧ ∀ j, k ≤ j → j < a → W j ≠ 34
theorem no34.sc (h : no34 W k a) (w : W a ≠ 34) : no34 W k (a + 1) := ⟨Nat.le_succ_of_le h.1, fun j h1 h2 => by
  by_cases e : j = a
  · rw [e]; exact w
  · exact h.2 j h1 (by omega)⟩
theorem Eo.rw9 {b j : Nat} (eo : Eo W 6 a b) (h1 : a ≤ j) (h2 : j < b) : rwd (W j) := by
  have u := (eo.pr.2.2.2.2.1.2.2.2 (j - a) (by omega)).1
  rw [show a + (j - a) = j by first | rfl | omega] at u
  exact u
theorem no34.eo {b : Nat} (h : no34 W k a) (eo : Eo W 6 a b) : no34 W k b := ⟨Nat.le_trans h.1 (Nat.le_of_lt eo.pr.1), fun j h1 h2 => by
  by_cases e : j < a
  · exact h.2 j h1 e
  · have u := eo.rw9 (j := j) (by omega) h2
    unfold rwd at u
    omega⟩
theorem no34.join {b : Nat} (h : no34 W k a) (g : no34 W a b) : no34 W k b := ⟨Nat.le_trans h.1 g.1, fun j h1 h2 => by
  by_cases e : j < a
  · exact h.2 j h1 e
  · exact g.2 j (by omega) h2⟩
/-- the sets are over, and no ';' stands in them -/
def seP (W pl : Nat → Int) (sm : Nat → Nat → Prop) (Nn : Nat) (Mc : mM) (q p c k0 : Nat) (nms : List nm9) (fS : Int × Int) (a : Nat) : Prop := seO W pl sm Nn Mc q p c k0 nms fS a ∧ no34 W k0 a
/-- the sets' end, exactly -/
def rsV (W : Nat → Int) (q : Nat) (ft : Int × Int) (X : Int × Int → Nat → Prop) (Y : mM → Prop) (x : Int) (M' : mM) : Prop := ∃ a' : Nat, mI M' (q + 1) 2 = a' ∧ ((x = 0 ∧ Rf W [50] 0 a') ∨ (x = 1 ∧ Rc W [50] 0 [57, 34, 50] a' ∧ ∃ fS : Int × Int, FT M' (q + 1) (fst9 ft fS) ∧ X fS a' ∧ Y M'))
/-- before a set, or behind the last -/
def rsJ (T A B D n V O P S0 : Nat) (W pl nq : Nat → Int) (sm : Nat → Nat → Prop) (Nn : Nat) (Mc : mM) (q p c k0 : Nat) (nms : List nm9) (ft : Int × Int) (X : Int × Int → Nat → Prop) (l1 l2 : Int) (i a : Nat) (M : mM) : Prop := WTq M T A B D n W pl nq sm ∧ ∃ fS : Int × Int, FT M (q + 1) (fst9 ft fS) ∧ ((l1 ≠ 0 ∧ i ≤ a ∧ Rc W [50] 0 [59, 60, 57, 34, 50] a ∧ seK W pl sm Nn Mc q p c k0 nms fS l2 i a ∧ no34 W k0 a ∧ seL W pl nq sm Nn n V Mc q p O P c k0 S0 nms i a M) ∨ (l1 = 0 ∧ Rc W [50] 0 [57, 34, 50] a ∧ X fS a ∧ seM W pl nq sm Nn n V Mc q p O P c k0 S0 nms M))
theorem x_rs_end {X : Int × Int → Nat → Prop} (h : rsI M0 z q w T A B D N C n p O P K Ab Be Cm V F ns sf ef c cnt L S0 a s9 M) (hF : FT M (q + 1) (fst9 ft fS)) (hR : Rc W [50] 0 [57, 34, 50] a) (hX : X fS a) (hY : seM W pl nq sm Nn n V Mc q p O P c k0 S0 nms M) : Ci G y_Pr_add d [vr p, vi 0, vi 0] M (fun x22 M21 => i32 x22 ∧ mOk M21 ∧ (rsQ9 M0 z q w T A B D N C n p O P K Ab Be Cm V F ns sf ef c cnt L S0 1 M21 ∧ rsV W q ft X (seE W pl nq sm Nn n V Mc q p O P c k0 S0 nms) 1 M21)) := by
  obtain ⟨h1, f1, a1, a2, p1, p2, p3, d1, c1, sc, hL⟩ := h
  obtain ⟨⟨np0, np1, -, -⟩, ⟨nO0, nO1, -, -, -⟩, nP0, nP1, -, -, -⟩ := h1.1.ne
  refine (s_tx_add (i32s (by omega) (by omega)) (i32s (by omega) (by omega)) h1 p1 (by omega) (by omega)).mono (fun v M' k => ?_)
  obtain ⟨v1, v2, v3, v4, v5, v6, v7, v8⟩ := k
  have e1 := v8 (q + 1) np1.symm nO1.symm nP1.symm
  refine ⟨v1, v2, ⟨f1.trans (v4.less p2), Or.inr ⟨rfl, v3, a, s9, by rw [e1]; exact a1, a2, v5, p2, p3, by rw [e1]; exact d1, by rw [e1]; exact c1, fun y => ?_⟩⟩, a, by rw [e1]; exact a1, Or.inr ⟨rfl, hR, fS, hF.same (by rw [e1]) (by rw [e1]), hX, hY.fin (s9 := s9) (fun u => by rw [e1] at u; exact u) p1 v5 (fun t ht => ⟨by rw [v6, if_neg (by omega)], by rw [v7, if_neg (by omega)]⟩) (by rw [v6, if_pos rfl])⟩⟩
  rw [e1] at y
  obtain ⟨H, u1, u2, u3, u4⟩ := sc y
  refine ⟨H, fun pc h0 h2 => ?_, u2, u3, by omega, by rw [v6, if_pos rfl], u4⟩
  rw [v6, v7, if_neg (by omega), if_neg (by omega)]
  exact u1 pc h0 h2
end TXP
end
end
section
/-! The class's reader of texts, exactly: one set, from behind its name on. -/
section TXQ
variable {G : mG} {d z q w T A B D N C n p O P K Ab Be Cm V F c s L cnt a s9 S0 k i k0 Nn : Nat} {M0 M M' M1 M2 : mM} {ns : Nat → Int} {sf ef : Nat → Nat} {W pl nq : Nat → Int} {sm : Nat → Nat → Prop} {nms : List nm9} {ft fS : Int × Int}
theorem kft_kd {tr : Int} {E : Nat → Int} {x y : Nat} (l1 : Int) (ht : tr = 0 ∨ tr = 1) (hl : l1 = if tr = 0 then 1 else 2) : (l1 = 0 ∨ kdq W E 0 x y = (if l1 = 2 then 1 else 0)) ↔ kdq W E 0 x y = tr := by
  rcases ht with u | u
  · rw [u, if_pos rfl] at hl
    rw [hl, u]
    simp
  · rw [u, if_neg (by decide)] at hl
    rw [hl, u]
    simp
theorem hz37 : ∀ j, lwx (W j) = 3 → Rf W [37, 75, 60, 57, 34, 50] j j := fun j hj => Rf.of (mst_tn (by decide) (fun u => by
  rw [← u] at hj
  exact absurd hj (by first | decide | simp)))
theorem rc60 {zr : List Int} (h : W a ≠ 29) : Rc W (60 :: zr) a zr a := Rc.one (mst_n (by decide) (by decide) (ys := []) (t := 0) (by
  show ex60 (W a) = _
  unfold ex60
  rw [if_neg h]) (Or.inl (by decide)))
theorem rc60m {zr : List Int} (h : W a = 29) : Rc W (60 :: zr) a (59 :: 60 :: zr) (a + 1) := Rc.one (mst_n (by decide) (by decide) (ys := [59, 60]) (t := 1) (by
  show ex60 (W a) = _
  unfold ex60
  rw [if_pos h]) (Or.inl (by decide)))
theorem i43_ {l4 l6 : Int} {V : Nat} (b4 : 0 ≤ l4 ∧ l4 ≤ 16384) (h6 : l6 = -1 ∨ (0 ≤ l6 ∧ l6 < V)) (hV : V ≤ 16384) : i32 ((l4 * 16) + (if l6 < 0 then 0 else l6)) := by
  split <;> exact ⟨by omega, by omega⟩
theorem x_rs168 {l2 l3 l4 l6 : Int} (i2 : i32 l2) (i3 : i32 l3) (b4 : 0 ≤ l4 ∧ l4 ≤ 16384) (h6 : l6 = -1 ∨ (0 ≤ l6 ∧ l6 < V)) (e4 : l4 = pl k) (w10 : W k0 ≠ 10) (sl : seL W pl nq sm Nn n V M0 q p O P c k0 S0 nms i k M) (hw : k + 1 < n ∧ mI M A (k + 1) = 2) (h : rsI M0 z q w T A B D N C n p O P K Ab Be Cm V F ns sf ef c cnt L S0 (k + 2) s9 M) (hf : l6 = -1 → mI M (q + 1) 3 ≠ 0) (wt : WTq M T A B D n W pl nq sm) (hFT : FT M (q + 1) (fst9 ft fS)) (w1 : W (k + 1) = 1) (sn : seN W pl sm Nn M0 q p c k0 nms fS l2 l6 i k) (hR : Rc W [50] 0 [38, 23, 61, 37, 75, 60, 57, 34, 50] (k + 2)) (hik : i ≤ k) (hNn : n ≤ Nn) (tn0 : TN M0 (q + 1) A n V F ns c) (n4 : no34 W k0 (k + 2)) (nx : ∀ (M1 : mM) (l1 l2 : Int) (a' s' : Nat), i32 l1 → i32 l2 → rsI M0 z q w T A B D N C n p O P K Ab Be Cm V F ns sf ef c cnt L S0 a' s' M1 → rsJ T A B D n V O P S0 W pl nq sm Nn M0 q p c k0 nms ft (seP W pl sm Nn M0 q p c k0 nms) l1 l2 (i + 1) a' M1 → h_TR_readSets_22 G (d + 5) q l1 l2 (l3 + 1) M1 (fun x M' => rsQ9 M0 z q w T A B D N C n p O P K Ab Be Cm V F ns sf ef c cnt L S0 x M' ∧ rsV W q ft (seP W pl sm Nn M0 q p c k0 nms) (seE W pl nq sm Nn n V M0 q p O P c k0 S0 nms) x M')) : h_TR_readSets_168 G (d + 5) q l2 l3 l4 ((k + 1 : Nat) : Int) l6 M (fun x M' => rsQ9 M0 z q w T A B D N C n p O P K Ab Be Cm V F ns sf ef c cnt L S0 x M' ∧ rsV W q ft (seP W pl sm Nn M0 q p c k0 nms) (seE W pl nq sm Nn n V M0 q p O P c k0 S0 nms) x M') := by
  obtain ⟨h1, f1, a1, a2, p1, p2, p3, d1, c1, sc, hL⟩ := h
  obtain ⟨⟨np0, np1, -, -⟩, ⟨nO0, nO1, -, -, nOp⟩, nP0, nP1, -, -, nPp⟩ := h1.1.ne
  obtain ⟨q01, q10, q210, q211, -⟩ := q_ne q
  have hV := h1.2.1.1.2
  have hN : n ≤ 16384 := by have := h1.1.1.2.2.2.1.2.2.1; have := h1.1.1.2.2.2.1.1.2.2.2.2.2.2.1; omega
  obtain ⟨t0, t1, t2, t3, t4, t5⟩ := h1.1.2.1
  refine k_TR_readSets_168 h1.1.1.1 i2 i3 (i32s (by omega) (by omega)) (i32s (by omega) (by omega)) (i32s (by omega) (by omega)) (fun v73 e73 => ?_)
  have i73 : i32 (orI l2 v73) := m_i32 _
  rw [t1, d1]
  refine ⟨t0, h1.1.1.2.1.1, ⟨by decide, by decide⟩, fun M80 e80 => ?_⟩
  obtain ⟨h80, x80, g80⟩ := tx_ui h1 ⟨by decide, by decide⟩ e80 (Or.inr (Or.inr (Or.inr (Or.inl ⟨rfl, Or.inr (Or.inl rfl)⟩))))
  have f80 : txF M0 q p O P S0 M80 := f1.trans ⟨x80.1, x80.2.1, x80.2.2.1, x80.2.2.2.1, x80.2.2.2.2.1, x80.2.2.2.2.2.1, fun i _ => ⟨by rw [g80, if_neg (fun u => nO1 u.1)], by rw [g80, if_neg (fun u => nP1 u.1)]⟩⟩
  have r80 : ∀ i, i ≠ 5 → mI M80 (q + 1) i = mI M (q + 1) i := fun i hi => by rw [g80, if_neg (fun u => hi u.2)]
  have b80 : ∀ b, b ≠ q + 1 → mI M80 b = mI M b := fun b hb => by
    funext i
    rw [g80, if_neg (fun u => hb u.1)]
  have d80 : mI M80 (q + 1) 5 = ((1 : Nat) : Int) := by rw [g80, if_pos ⟨rfl, rfl⟩]; rfl
  have a80 : mI M80 (q + 1) 2 = ((k + 2 : Nat) : Int) := by rw [r80 2 (by decide)]; exact a1
  have wt80 : WTq M80 T A B D n W pl nq sm := wt.fi h1.1 x80.1
  rw [h80.1.2.1.2.1]
  refine ⟨h80.1.1.2.1.1, (x_tx_accept (x := 39) (i32s (by omega) (by omega)) (by omega) h80 a80 a2).mono (fun x84 M83 kk => ?_)⟩
  obtain ⟨i84, o83, -, h83, x83, k83, r83, b83, m83⟩ := kk
  have f83 : txF M0 q p O P S0 M83 := f80.trans ⟨x83.1, x83.2.1, x83.2.2.1, x83.2.2.2.1, x83.2.2.2.2.1, x83.2.2.2.2.2.1, fun i _ => ⟨by rw [b83 O nO1], by rw [b83 P nP1]⟩⟩
  refine ⟨i84, o83, fun y => ?_, fun y => ?_⟩
  · rw [(k83.resolve_left (fun u => by rw [y] at u; exact absurd u.1 (by first | decide | simp))).2]
    exact ⟨⟨f80, Or.inl ⟨rfl, h80, k + 2, a80, a2⟩⟩, k + 2, a80, Or.inl ⟨rfl, rf_t hR (fun u => m83 y ((wt80.is a2 (by decide) (by decide)).mpr u)) (by decide)⟩⟩
  obtain ⟨-, e38, a83, an83⟩ := k83.resolve_right (fun u => y u.1)
  clear k83
  have rc3 : Rc W [50] 0 [23, 61, 37, 75, 60, 57, 34, 50] (k + 3) := rc_t hR ((wt80.is a2 (by decide) (by decide)).mp e38) (by decide)
  have wt83 : WTq M83 T A B D n W pl nq sm := wt80.fi h80.1 x83.1
  rw [h83.1.2.1.2.1]
  refine ⟨h83.1.2.1.1, h83.1.1.2.1.1, (x_tx_accept (x := 24) (i32s (by omega) (by omega)) (by omega) h83 a83 an83).mono (fun x91 M90 kk => ?_)⟩
  obtain ⟨i91, o90, -, h90, x90, k90, r90, b90, m90⟩ := kk
  have f90 : txF M0 q p O P S0 M90 := f83.trans ⟨x90.1, x90.2.1, x90.2.2.1, x90.2.2.2.1, x90.2.2.2.2.1, x90.2.2.2.2.2.1, fun i _ => ⟨by rw [b90 O nO1], by rw [b90 P nP1]⟩⟩
  refine ⟨i91, o90, fun y => ?_, fun y => ?_⟩
  · rw [(k90.resolve_left (fun u => by rw [y] at u; exact absurd u.1 (by first | decide | simp))).2]
    exact ⟨⟨f83, Or.inl ⟨rfl, h83, k + 3, a83, an83⟩⟩, k + 3, a83, Or.inl ⟨rfl, rf_t rc3 (fun u => m90 y ((wt83.is an83 (by decide) (by decide)).mpr u)) (by decide)⟩⟩
  obtain ⟨-, e23, a90, an90⟩ := k90.resolve_right (fun u => y u.1)
  clear k90
  have rc4 : Rc W [50] 0 [61, 37, 75, 60, 57, 34, 50] (k + 4) := rc_t rc3 ((wt83.is an83 (by decide) (by decide)).mp e23) (by decide)
  have wt90 : WTq M90 T A B D n W pl nq sm := wt83.fi h83.1 x90.1
  have A90 : mI M90 A (k + 1) = 2 := by rw [(h83.1.words x90.1).1, (h80.1.words x83.1).1, (h1.1.words x80.1).1]; exact hw.2
  have p90 : mI M90 p 2 = ((s9 : Nat) : Int) := by rw [b90 p np1, b83 p np1, b80 p np1]; exact p1
  have d90 : mI M90 (q + 1) 5 = ((1 : Nat) : Int) := by rw [r90 5 (by decide), r83 5 (by decide)]; exact d80
  have c90 : mI M90 (q + 1) 6 = 0 := by rw [r90 6 (by decide), r83 6 (by decide), r80 6 (by decide)]; exact c1
  have l90 : mI M90 (q + 1) 3 = mI M (q + 1) 3 := by rw [r90 3 (by decide), r83 3 (by decide), r80 3 (by decide)]
  have F90 : FT M90 (q + 1) (fst9 ft fS) := hFT.same l90 (by rw [r90 4 (by decide), r83 4 (by decide), r80 4 (by decide)])
  have sc90 : mI M (q + 1) 3 = 0 → scI M90 O P V F ns S0 s9 := fun y => (sc y).cg (fun i _ => ⟨by rw [b90 O nO1, b83 O nO1, b80 O nO1], by rw [b90 P nP1, b83 P nP1, b80 P nP1]⟩)
  have n5 : no34 W k0 (k + 4) := (n4.sc (by rw [(wt80.is (y := 38) a2 (by decide) (by decide)).mp e38]; decide)).sc (by rw [(wt83.is (y := 23) an83 (by decide) (by decide)).mp e23]; decide)
  have pM := p1
  have oo9 : ∀ t, mI M90 O t = mI M O t ∧ mI M90 P t = mI M P t := fun t => by rw [b90 O nO1, b83 O nO1, b80 O nO1, b90 P nP1, b83 P nP1, b80 P nP1]; exact ⟨rfl, rfl⟩
  clear x80 g80 r80 b80 d80 a80 f80 f83 r83 b83 r90 b90 x83 x90 h80 sc a1 p1 d1 c1 f1 m83 m90 wt80 wt83 wt hFT hR rc3
  rw [h90.1.2.1.2.1]
  refine ⟨h90.1.2.1.1, h90.1.1.2.1.1, (x_RR_kindOf h90.1.1 h90.2.1.2.2.1.nk hw.1 A90).mono (fun x98 M97 kk => ?_)⟩
  obtain ⟨e97, ⟨x980, x981⟩, x982⟩ := kk
  subst e97
  have x982 : Hid ((nmn M97 (q + 1) T B D c (k + 1) ∧ x98 = 0) ∨ ∃ i : Nat, fm M97 (q + 1) T B D c (k + 1) i ∧ x98 = if mI M97 (q + 1 + 9) i = 0 then 1 else 2) := x982
  have hw97 : ∀ i, i < c → ∃ v : Nat, mI M97 (q + 1 + 6) i = v ∧ v < n ∧ mI M97 A v = 2 := fun i hi => (h90.2.1.2.2.1.2.2 i hi).1
  have k01 : ∀ i, i < c → mI M97 (q + 1 + 9) i = 0 ∨ mI M97 (q + 1 + 9) i = 1 := fun i hi => (h90.2.1.2.2.1.2.2 i hi).2.2
  obtain ⟨E, Cf, uq, big, ec⟩ := uq_ex (p := p) (nms := nms) (c := c) wt90 hw97 c90
  have lf9 : CT M97 (q + 1) p nms → nms.length = c → LfC W nq sm n nms Cf := fun ct hl => ECq.lf (c := c) (E := E) (M := M97) (r := q + 1) (p := p) ⟨big, ec⟩ ct hl k01
  have ec : CT M97 (q + 1) p nms → nms.length = c → E = E9 sm nms 0 := fun ct hl => (ec ct hl).1
  refine ⟨i32s (by omega) (by omega), o90, h90.1.1.2.1.1, (x_tx_rule (u := (W, E, pl, Cf, (k + 4, fst9 ft fS), ([37, 75, 60, 57, 34, 50], 6), ([50], 0))) (d0 := 1) (i32s (by omega) (by omega)) (i32s (by omega) (by omega)) h90 a90 (by omega) p90 (by omega) (by omega) d90 (by omega) h90.2.1.2.2.1.nk (uq _) rfl F90 (by rw [d90]; rfl) ⟨fun y => absurd y (by first | decide | simp), fun _ => rfl⟩ hz37 rc4).mono (fun x102 M101 kk => ?_)⟩
  obtain ⟨i102, o101, ⟨h101, x101, ⟨c101, -⟩, k101⟩, a9, ea9, rv⟩ := kk
  have f101 : txF M0 q p O P S0 M101 := f90.trans (x101.less p2)
  refine ⟨i102, o101, fun y => ?_, fun y => ?_⟩
  · obtain ⟨-, u⟩ := k101.resolve_right (fun u => by rw [y] at u; exact absurd u.1 (by first | decide | simp))
    refine ⟨⟨f101, Or.inl ⟨rfl, h101, u⟩⟩, a9, ea9, Or.inl ⟨rfl, ?_⟩⟩
    rcases rv with ⟨-, rv⟩ | ⟨rv, -⟩
    · exact rv
    · exact absurd y (by rw [rv]; decide)
  obtain ⟨-, e, H1, a', u1, u2, u3, u4, u5, u6, u7, u8, u9, u10⟩ := k101.resolve_left (fun u => y u.1)
  clear k101
  have ea' : a' = a9 := by
    rw [u6] at ea9
    clear rv nx sc90 u1
    omega
  obtain ⟨L9, g1, g2, g3, g4, g5, g6, g7⟩ : rlD (W, E, pl, Cf, (k + 4, fst9 ft fS), ([37, 75, 60, 57, 34, 50], 6), ([50], 0)) (q + 1) p O P s9 a9 _ M101 := (rv.resolve_left (fun u => y u.1)).2
  clear rv
  subst ea'
  have g2 : Eo W 6 (k + 4) a' := g2
  have g7 : Rc W [50] 0 [37, 75, 60, 57, 34, 50] a' := g7
  have g4 : FT M101 (q + 1) (fst9 (fst9 (fst9 ft fS) (fl W E pl 0 (k + 4) a')) (kft (x98 = 0 ∨ kdq W E 0 (k + 4) a' = (if x98 = 2 then 1 else 0)) (pl (k + 4)))) := g4
  obtain ⟨vr, hvr⟩ : ∃ vr, vr = fst9 (fl W E pl 0 (k + 4) a') (kft (x98 = 0 ∨ kdq W E 0 (k + 4) a' = (if x98 = 2 then 1 else 0)) (pl (k + 4))) := ⟨_, rfl⟩
  rw [fst9_as, fst9_as, ← hvr] at g4
  have vr9 : CT M0 (q + 1) p nms → nms.length = c → ∀ e, fnd9 sm nms (k + 1) = some e → vr = rf9 W pl sm nms 0 e.2.2.1 (k + 4) a' := fun ct hl e fe => by
    have ct9 := ct.tx f90.2
    have eE := ec ct9 hl
    rcases ct9.fnd wt90 (by rw [hl]; exact hw97) hw.1 w1 with ⟨-, z2⟩ | ⟨j, e', z1, z2, z3, -⟩
    · rw [fe] at z2
      exact absurd z2 (by simp)
    · rw [fe] at z3
      have ee : e = e' := Option.some.inj z3
      subst ee
      rw [hl] at z1
      have xe : x98 = if e.2.2.1 = 0 then 1 else 2 := by
        rcases x982 with v | ⟨j', v1, v2⟩
        · exact absurd z1.2.1 (v.1 j z1.1)
        · rw [← fm_un z1 v1, (ct9.2 j e z2).2.2.2.1] at v2
          exact v2
      have e01 : e.2.2.1 = 0 ∨ e.2.2.1 = 1 := by
        rw [← (ct9.2 j e z2).2.2.2.1]
        exact k01 j z1.1
      rw [hvr, propext (kft_kd x98 e01 xe), eE]
      rfl
  have wt101 : WTq M101 T A B D n W pl nq sm := wt90.fi h90.1 x101.1
  have g5 : Cd W Cf pl (mI M101 O) (mI M101 P) 0 0 0 (k + 4) a' s9 L9 := g5
  have eL9 : e = L9 := by rw [u5] at g1; omega
  subst eL9
  clear g1 g3 g6 ec uq x982 hw97 k01 hvr
  rw [h101.1.2.1.2.1]
  refine ⟨h101.1.2.1.1, h101.1.1.2.1.1, (x_tx_accept (x := 38) (i32s (by omega) (by omega)) (by omega) h101 u6 u8).mono (fun x109 M108 kk => ?_)⟩
  obtain ⟨i109, o108, -, h108, x108, k108, r108, b108, m108⟩ := kk
  refine ⟨i109, o108, fun y => ?_, fun y => ?_⟩
  · rw [(k108.resolve_left (fun u => by rw [y] at u; exact absurd u.1 (by first | decide | simp))).2]
    exact ⟨⟨f101, Or.inl ⟨rfl, h101, a', u6, u8⟩⟩, a', u6, Or.inl ⟨rfl, rf_t g7 (fun u => m108 y ((wt101.is u8 (by decide) (by decide)).mpr u)) (by decide)⟩⟩
  obtain ⟨-, e37, a108, an108⟩ := k108.resolve_right (fun u => y u.1)
  clear k108
  have w37 : W a' = 37 := (wt101.is u8 (by decide) (by decide)).mp e37
  have n6 : no34 W k0 (a' + 1) := (n5.eo g2).sc (by rw [w37]; decide)
  have rc6 : Rc W [50] 0 [60, 57, 34, 50] (a' + 1) := (rc_t g7 w37 (by decide)).trans (Rc.zero mst_75)
  have wt108 : WTq M108 T A B D n W pl nq sm := wt101.fi h101.1 x108.1
  have d108 : mI M108 (q + 1) 5 = 1 := by rw [r108 5 (by decide), u10]; exact d90
  rw [h108.1.2.1.2.1, d108]
  refine ⟨h108.1.2.1.1, h108.1.1.2.1.1, ⟨by decide, by decide⟩, fun M116 e116 => ?_⟩
  obtain ⟨h116, x116, g116⟩ := tx_ui h108 ⟨by decide, by decide⟩ e116 (Or.inr (Or.inr (Or.inr (Or.inl ⟨rfl, Or.inr (Or.inl rfl)⟩))))
  have b116 : ∀ b, b ≠ q + 1 → mI M116 b = mI M101 b := fun b hb => by
    rw [← b108 b hb]
    funext i
    rw [g116, if_neg (fun u => hb u.1)]
  have r116 : ∀ i, i ≠ 5 → i ≠ 2 → mI M116 (q + 1) i = mI M101 (q + 1) i := fun i hi hj => by rw [g116, if_neg (fun u => hi u.2), r108 i hj]
  have a116 : mI M116 (q + 1) 2 = ((a' + 1 : Nat) : Int) := by rw [g116, if_neg (fun u => absurd u.2 (by first | decide | simp))]; exact a108
  have d116 : mI M116 (q + 1) 5 = 0 := by rw [g116, if_pos ⟨rfl, rfl⟩]; rfl
  have xx : txF M101 q p O P S0 M116 := by
    have u := x108.trans x116
    exact ⟨u.1, u.2.1, u.2.2.1, u.2.2.2.1, u.2.2.2.2.1, u.2.2.2.2.2.1, fun i _ => ⟨by rw [b116 O nO1], by rw [b116 P nP1]⟩⟩
  have f116 := f101.trans xx
  have wt116 : WTq M116 T A B D n W pl nq sm := wt108.fi h108.1 x116.1
  have p116 : mI M116 p 2 = ((e : Nat) : Int) := by rw [b116 p np1]; exact u5
  rw [h116.1.2.1.2.2.2.1]
  have i43 : i32 ((l4 * 16) + (if l6 < 0 then 0 else l6)) := by
    exact i43_ b4 h6 (Nat.le_trans hV (by decide))
  refine ⟨h116.1.1.2.2.2.2.1.1, (s_tx_add (i32s (by omega) (by omega)) i43 h116 p116 (by omega) (by omega)).mono (fun v M119 kk => ?_)⟩
  obtain ⟨v1, v2, v3, v4, v5, v6, v7, v8⟩ := kk
  have e1 := v8 (q + 1) np1.symm nO1.symm nP1.symm
  have f119 := f116.trans (v4.less (show S0 ≤ e by omega))
  have wt119 : WTq M119 T A B D n W pl nq sm := wt116.fi h116.1 v4.1
  rw [v3.1.2.1.2.1]
  refine ⟨v1, v2, v3.1.2.1.1, v3.1.1.2.1.1, (x_tx_accept (x := 30) (a := a' + 1) (i32s (by omega) (by omega)) (by omega) v3 (by rw [e1]; exact a116) an108).mono (fun x125 M124 kk => ?_)⟩
  obtain ⟨i125, o124, -, h124, x124, k124, r124, b124, m124⟩ := kk
  have f124 : txF M0 q p O P S0 M124 := f119.trans ⟨x124.1, x124.2.1, x124.2.2.1, x124.2.2.2.1, x124.2.2.2.2.1, x124.2.2.2.2.2.1, fun i _ => ⟨by rw [b124 O nO1], by rw [b124 P nP1]⟩⟩
  have sc124 : mI M124 (q + 1) 3 = 0 → scI M124 O P V F ns S0 (e + 1) := fun y => by
    rw [r124 3 (by decide), e1, r116 3 (by decide) (by decide)] at y
    have y90 : mI M (q + 1) 3 = 0 := by
      rw [← l90]
      exact Classical.byContradiction (fun u => x101.2.2.1 u y)
    have y6 : 0 ≤ l6 ∧ l6 < V := h6.resolve_left (fun u => hf u y90)
    have s1 : scI M101 O P V F ns S0 s9 := (sc90 y90).cg (fun i hi => x101.2.2.2.2.2.2 i hi)
    refine s1.set (x := (l4 * 16) + (if l6 < 0 then 0 else l6)) u1 u2 u3 u4 (fun i => ?_) (fun i => ?_) ?_
    · rw [b124 O nO1, v6, b116 O nO1]
    · rw [b124 P nP1, v7, b116 P nP1]
    · rw [if_neg (by omega)]
      clear h1 h83 h90 h101 h108 h116 nx sc90 u1 s1
      exact ⟨by omega, by omega, by omega⟩
  have p124 : mI M124 p 2 = ((e + 1 : Nat) : Int) := by rw [b124 p np1]; exact v5
  have d124 : mI M124 (q + 1) 5 = 0 := by rw [r124 5 (by decide), e1]; exact d116
  have c124 : mI M124 (q + 1) 6 = 0 := by rw [r124 6 (by decide), e1, r116 6 (by decide) (by decide), c101]; exact c90
  have wt124 : WTq M124 T A B D n W pl nq sm := wt119.fi v3.1 x124.1
  have F124 : FT M124 (q + 1) (fst9 ft (fst9 fS vr)) := g4.same (by rw [r124 3 (by decide), e1, r116 3 (by decide) (by decide)]) (by rw [r124 4 (by decide), e1, r116 4 (by decide) (by decide)])
  have an1 : a' < n := by omega
  obtain ⟨nx1, nx2⟩ := sn.next hik hNn (show k < n by omega) tn0 hV g2 w37 an1 vr9
  have O124 : ∀ t, mI M124 O t = (if t = e then 43 else mI M101 O t) ∧ mI M124 P t = (if t = e then (l4 * 16) + (if l6 < 0 then 0 else l6) else mI M101 P t) := fun t => by rw [b124 O nO1, b124 P nP1, v6, v7, b116 O nO1, b116 P nP1]; exact ⟨rfl, rfl⟩
  have y124 : mI M124 (q + 1) 3 = 0 → mI M101 (q + 1) 3 = 0 := fun u => by rw [r124 3 (by decide), e1, r116 3 (by decide) (by decide)] at u; exact u
  have s9L : s9 < e := g5.lt
  obtain ⟨ml1, ml2⟩ := sl.next (M' := M124) (Cf := Cf) (s9 := s9) (e9 := e) (a' := a') (fun u => by
      rw [← l90]
      exact Classical.byContradiction (fun v => x101.2.2.1 v (y124 u))) pM p124 (fun t ht => by
      rw [(O124 t).1, (O124 t).2, if_neg (by omega), if_neg (by omega), (x101.2.2.2.2.2.2 t ht).1, (x101.2.2.2.2.2.2 t ht).2]
      exact oo9 t) (show i < Nn by omega) w10 (cpq_at g2 w37 (by omega)) (fun ct hl y => by
      have ft0 := F124.1.symm.trans y
      obtain ⟨-, fz⟩ := fst9_1.mp ft0
      obtain ⟨f0, vz⟩ := fst9_1.mp fz
      obtain ⟨l, seen, j, e', -, -, -, -, fe, -, e3, -, -, e7⟩ := (sn ct hl).2 f0
      have ev := vr9 ct hl e' fe
      rw [ev] at vz
      have fl0 : (fl W (E9 sm nms 0) pl 0 (k + 4) a').1 = 0 := (fst9_1.mp vz).1
      have l60 : 0 ≤ l6 ∧ l6 < V := h6.resolve_left (fun u => by rw [u] at e7; omega)
      refine ⟨lf9 (ct.tx f90.2) hl, g5.cg (fun t _ t2 => by rw [(O124 t).1, (O124 t).2, if_neg (by omega), if_neg (by omega)]; exact ⟨rfl, rfl⟩), by rw [(O124 _).1, if_pos rfl], ?_, g2, by omega, fl0, ?_, ?_⟩
      · rw [(O124 _).2, if_pos rfl, if_neg (by omega), e4, e7]
      · show vix9 sm nms (k + 1) < V
        omega
      · show 0 ≤ pl k ∧ pl k ≤ 16384
        rw [← e4]
        exact b4)
  have le1 : i + 1 ≤ a' + 1 + 1 := by
    clear nx sc90 u1 nx1 nx2
    omega
  refine ⟨i125, o124, ?_⟩
  rw [e73]
  rw [e73] at i73
  rcases k124 with ⟨ex, e30, a124, an124⟩ | ⟨ex, e2⟩
  · have w29 : W (a' + 1) = 29 := (wt119.is an108 (by decide) (by decide)).mp e30
    exact nx M124 x125 _ (a' + 1 + 1) (e + 1) i125 i73 ⟨h124, f124, a124, an124, p124, by omega, by omega, d124, c124, sc124, hL⟩ ⟨wt124, fst9 fS vr, F124, Or.inl ⟨by rw [ex]; decide, le1, rc6.trans (rc60m w29), nx1 w29, n6.sc (by rw [w29]; decide), ml1 w29⟩⟩
  · have w29 : W (a' + 1) ≠ 29 := fun u => m124 ex ((wt119.is an108 (by decide) (by decide)).mpr u)
    exact nx M124 x125 _ (a' + 1) (e + 1) i125 i73 ⟨h124, f124, by rw [e2, e1]; exact a116, an108, p124, by omega, by omega, d124, c124, sc124, hL⟩ ⟨wt124, fst9 fS vr, F124, Or.inr ⟨ex, rc6.trans (rc60 w29), ⟨nx2 w29, n6⟩, ml2 w29⟩⟩
end TXQ
end
