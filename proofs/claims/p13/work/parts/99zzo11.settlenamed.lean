/-! The class's reader of texts, exactly: settleNamed. -/
section TXL
variable {G : mG} {d z q w T A B D N C n p O P K Ab Be Cm V F c L cnt a nw k e k0 e0 : Nat} {M0 M M' M1 M2 : mM} {ns : Nat → Int} {sf ef : Nat → Nat} {H : Nat → Nat} {W pl nq E : Nat → Int} {Cf : Nat → Int × Int} {sm : Nat → Nat → Prop} {s s' : st9} {ft : Int × Int} {v : vrs}
/-- the class's tables are the pure state s -/
def CSm (M : mM) (q p : Nat) (s : st9) : Prop := CT M (q + 1) p s.1 ∧ mI M p 3 = (s.2.1.1 : Int) ∧ mI M p 7 = (s.2.1.2.1 : Int) ∧ mI M p 12 = (s.2.1.2.2.1 : Int) ∧ (mI M p 11 = -1 ↔ s.2.1.2.2.2 = 0) ∧ s.1.length = s.2.1.1 + s.2.1.2.1 ∧ vcn s.1 = s.2.1.1 ∧ rcn s.1 = s.2.1.2.1
/-- an item has been settled, exactly -/
def itZ (q p : Nat) (s' : st9) (M' : mM) : Prop := FT M' (q + 1) s'.2.2 ∧ (s'.2.2.1 = 0 → CSm M' q p s')
theorem itZ.bad (h : FT M' (q + 1) s'.2.2) (h1 : s'.2.2.1 ≠ 0) : itZ q p s' M' := ⟨h, fun z => absurd z h1⟩
/-- a const or formula has been settled: the program's tables -/
def snZ (p O P F L e : Nat) (l1 : Int) (v : vrs) (M M' : mM) : Prop := snD p O P F M M' ∧ (l1 = 4 → (mI M' (p + 6) F = v.2.1 ∧ mI M' (p + 7) F = v.2.2) ∧ mI M' p 2 = ((L : Nat) : Int)) ∧ (l1 = 7 → mI M' (p + 8) F = ((L : Nat) : Int) ∧ mI M' p 2 = ((e + 1 : Nat) : Int)) ∧ mI M' p 11 = mI M p 11
theorem x_TR_settleNamed {l1 : Int} (hF : FMx G) (h4 : l1 = 4 ∨ l1 = 7) (h : TX M z q w T A B D N C n p O P K Ab Be Cm V F ns sf ef c cnt L) (y60 : 60 ≤ F → mI M (q + 1) 3 ≠ 0) (cd : Cod M O P (vco l1 V) F (nco l1 ns) L e H 1) (hp : mI M p 2 = ((e + 1 : Nat) : Int)) (ha : mI M (q + 1) 2 = ((a : Nat) : Int)) (han : a ≤ n) (hLa : e + 1 ≤ a) (hd : mI M (q + 1) 5 = 0) (hn : mI M q 3 = ((nw : Nat) : Int) ∧ nw < n ∧ mI M A nw = 2) (h8 : mI M q 8 = 0 ∨ mI M q 8 = 1) (h21 : mI M (q + 21) 0 = ((L : Nat) : Int)) (wt : WTq M T A B D n W pl nq sm) (hnw : nw = k0 + 1) (cs : CSm M q p s) (ec : ECq M (q + 1) p n W nq sm s.1 c (if l1 = 4 then 1 else 0) E Cf) (hkd : mI M q 8 = kdq W E 0 (k0 + 3) e0) (eo : Eo W 6 (k0 + 3) e0) (e0n : e0 ≤ n) (hc : Cd W Cf pl (mI M O) (mI M P) 0 0 0 (k0 + 3) e0 L e) (oe : mI M O e = 0) (hFT : FT M (q + 1) ft) (hfl : ft.1 = 0 → (fl W E pl 0 (k0 + 3) e0).1 = 0) (hv : v = vlq W (cv9 W nq sm s.1) pl 0 0 (k0 + 3) e0) (gv : ft.1 = 0 → l1 = 4 → vgd (kdq W E 0 (k0 + 3) e0) v) (flt : ft.1 ≠ 0 → s'.2.2 = ft) (es1 : ft.1 = 0 → l1 = 4 → v.1 ≠ 0 → s'.2.2 = (v.1, v.2.1)) (es2 : ft.1 = 0 → (l1 = 4 → v.1 = 0) → s' = (s.1 ++ [(k0 + 1, (if l1 = 4 then 1 else 2), kdq W E 0 (k0 + 3) e0, if l1 = 4 then v else (0, 0, 1))], (s.2.1.1, s.2.1.2.1 + 1, s.2.1.2.2), (0, 0))) : Cv G y_TR_settleNamed (d + 6) [vr q, vi l1] M (fun M' => itE M z q w T A B D N C n p O P K Ab Be Cm M' ∧ itZ q p s' M' ∧ mI M' (q + 1) 2 = ((a : Nat) : Int) ∧ (s'.2.2.1 = 0 → snZ p O P F L e l1 v M M')) := by
  obtain ⟨ct, j3, j7, j12, j11, jl, jv, jr⟩ := id cs
  have hl : s.1.length = c := by
    have y1 := ct.1
    have y2 := h.2.1.2.2.1.1
    omega
  have eF : s.2.1.2.1 = F := by
    have := h.2.1.2.1.1
    omega
  have eV : s.2.1.1 = V := by
    have := h.2.1.1.1
    omega
  have V12 := h.2.1.1.2
  have h9 : ∀ i, i < c → mI M (q + 1 + 9) i = 0 ∨ mI M (q + 1 + 9) i = 1 := fun i hi => (h.2.1.2.2.1.2.2 i hi).2.2
  have fin : ∀ {e9 : nm9} {Mx M9 : mM}, ft.1 = 0 → (∀ i, i ≠ 3 → i ≠ 4 → mI Mx (q + 1) i = mI M (q + 1) i) → mI Mx (q + 1) 3 = 0 → mI Mx p = mI M p → s' = (s.1 ++ [e9], (s.2.1.1, s.2.1.2.1 + 1, s.2.1.2.2), (0, 0)) → e9.2.1 ≠ 3 → snY Mx q p F s.1 e9 M9 → itZ q p s' M9 := fun {e9 Mx M9} _ _ g2 g3 g4 g6 g5 => by
    obtain ⟨y1, y2, y3⟩ := g5
    rw [g4]
    refine ⟨⟨by rw [y2 3 (by decide)]; exact g2, fun u => absurd rfl u⟩, fun _ => ⟨y1, ?_, ?_, ?_, ?_, ?_, ?_, ?_⟩⟩
    · rw [y3 3 (by decide), if_neg (by decide), g3]; exact j3
    · rw [y3 7 (by decide), if_pos rfl]
      show (F : Int) + 1 = ((s.2.1.2.1 + 1 : Nat) : Int)
      omega
    · rw [y3 12 (by decide), if_neg (by decide), g3]; exact j12
    · rw [y3 11 (by decide), if_neg (by decide), g3]; exact j11
    · show (s.1 ++ [e9]).length = s.2.1.1 + (s.2.1.2.1 + 1)
      rw [List.length_append, jl]
      simp
      omega
    · show vcn (s.1 ++ [e9]) = s.2.1.1
      rw [vcn_app]
      show vcn s.1 + (0 + (if e9.2.1 = 3 then 1 else 0)) = _
      rw [if_neg g6]
      omega
    · show rcn (s.1 ++ [e9]) = s.2.1.2.1 + 1
      rw [rcn_app]
      show rcn s.1 + (0 + (if e9.2.1 = 3 then 0 else 1)) = _
      rw [if_neg g6]
      omega
  have hLe : L ≤ e := cd.2.2.2.2.2
  obtain ⟨t0, t1, t2, t3, t4, t5⟩ := h.1.2.1
  obtain ⟨s1, s2, s3, s4⟩ := h.1.2.2.1
  obtain ⟨k6, ⟨-, -, -, p8, p9, p10, -⟩, ⟨-, -, -, kp6, kp7, kp8, -⟩, ⟨-, -, -, np6, np7, np8, -⟩⟩ := h.tab
  have f7 := h.2.1.2.1.1
  have hN : n ≤ 16384 := by have := h.1.1.2.2.2.1.2.2.1; have := h.1.1.2.2.2.1.1.2.2.2.2.2.2.1; omega
  have q21p : q + 21 ≠ p ∧ q + 21 ≠ p + 8 := by have := h.1.2.2.2.2.2.1.2.1; omega
  refine k_TR_settleNamed h.1.1.1 (i32s (by omega) (by omega)) ?_
  refine ⟨t0, by rw [t1]; exact h.1.1.2.1.1, fun y0 => ⟨fun y4 => ?_, fun y4 => ?_⟩, fun y0 => ?_⟩
  · rw [t1] at y0
    have h60 : F < 60 := by
      by_cases u : 60 ≤ F
      · exact absurd y0 (y60 u)
      · omega
    subst y4
    have cd' : Cod M O P 0 F (nsc ns) L e H 1 := cd
    have f0 : ft.1 = 0 := by rw [← hFT.1]; exact y0
    have ec' : ECq M (q + 1) p n W nq sm s.1 c 1 E Cf := ec
    have ev : vlq W (cvn W nq sm s.1 n) pl 0 0 (k0 + 3) e0 = v := by
      rw [hv]
      refine vl_ci0 (fun k _ k2 => ?_) eo
      unfold cvn
      rw [if_pos (by omega)]
    refine (x_TR_worksOut (k := 0) (l2 := 0) hF (by omega) (i32s (by omega) (by omega)) h y0 h21 hp (by omega) (lf_ex wt ec' ct hl h9) eo (hfl f0) hc (Nat.lt_succ_self _) oe (fun z => absurd rfl z)).mono (fun x9 M8 k => ?_)
    obtain ⟨⟨Ab1, Be1, Cm1, h1, fa, hab, hr, ⟨q0, q1, q21, qp, qO, qP, qA⟩, k8⟩, wv, ct8, -⟩ := k
    rw [ev] at wv
    have tr := wu_tr (p := p) (O := O) (P := P) fa hab hr
    have i9 : i32 x9 := m_b32 (k8.imp (fun u => u) (fun u => u.1))
    have a8 : mI M8 (q + 1) 2 = ((a : Nat) : Int) := by rw [q1 2 (by decide) (by decide)]; exact ha
    have d8 : mI M8 (q + 1) 5 = 0 := by rw [q1 5 (by decide) (by decide)]; exact hd
    refine ⟨i9, h1.1.1.1, fun y => ?_, fun y => ?_⟩
    · refine ⟨⟨Ab1, Be1, Cm1, V, F, ns, sf, ef, c, cnt, e + 1, a, h1.any (fun _ => Nat.le_succ_of_le hLe), by rw [qp]; exact hp, a8, han, hLa, d8, tr⟩, ?_⟩
      obtain ⟨-, w2, w3⟩ := wv.resolve_right (fun u => by rw [y] at u; exact absurd u.1 (by decide))
      have v1 : v.1 ≠ 0 := fun u => w2 (by unfold wuf; rw [if_pos rfl, if_neg (fun z => z u)])
      have ew : wuf 0 v (pl (k0 + 3)) = (v.1, v.2.1) := by unfold wuf; rw [if_pos rfl, if_pos v1]
      rw [ew] at w3
      have es := es1 f0 rfl v1
      exact ⟨itZ.bad (by rw [es]; exact w3) (by rw [es]; exact v1), a8, fun t => absurd t (by rw [es]; exact v1)⟩
    · have wp := wu_p h fa
      obtain ⟨-, u2, u3⟩ := k8.resolve_left y
      obtain ⟨-, w2, w3, w4, w5⟩ := wv.resolve_left (fun u => y u.1)
      have mk := h1.1.2.2.2.1.2.1
      have pA : mI M8 Ab1 0 = v.2.1 := by rw [← mk.2.2.1]; exact w5.1
      have pB : mI M8 Be1 0 = v.2.2 := by rw [← mk.2.2.2.1]; exact w5.2
      have k88 : mI M8 q 8 = kdq W E 0 (k0 + 3) e0 := by rw [q0]; exact hkd
      have es := es2 f0 (fun _ => w3)
      rw [if_pos rfl, if_pos rfl, ← hnw, ← k88] at es
      obtain ⟨v1, v2, v3, v4⟩ := x_sn_const (G := G) (d := d) (v := v) (nms := s.1) (Q := fun M' => itE M z q w T A B D N C n p O P K Ab Be Cm M' ∧ itZ q p s' M' ∧ mI M' (q + 1) 2 = ((a : Nat) : Int) ∧ (s'.2.2.1 = 0 → snZ p O P F L e 4 v M M')) (by rw [jr, eF]) (fun M9 g => ⟨g.1, fin f0 q1 u2 qp es (by simp) g.2.1, by rw [g.2.1.2.1 2 (by decide)]; exact a8, fun _ => ⟨⟨fun i i9 i15 => by rw [g.2.2.1.1 i i9 i15, wp i i15], fun i i3 i5 => by rw [g.2.2.1.2.1 i i3 i5, wp i (by omega)], fun j hj => by rw [(g.2.2.1.2.2.1 j hj).1, (g.2.2.1.2.2.1 j hj).2.1, (g.2.2.1.2.2.1 j hj).2.2, wp 6 (by omega), wp 7 (by omega), wp 8 (by omega)]; exact ⟨rfl, rfl, rfl⟩, by rw [g.2.2.1.2.2.2.1, qO], by rw [g.2.2.1.2.2.2.2, qP]⟩, fun _ => g.2.2.2, fun t => absurd t (by decide), by rw [g.2.1.2.2 11 (by decide), if_neg (by decide), qp]⟩⟩) h1 u2 h60 u3 ⟨by rw [q0]; exact hn.1, hn.2.1, by rw [qA]; exact hn.2.2⟩ (by rw [q0]; exact h8) (by rw [q21]; exact h21) (show L ≤ a by omega) a8 han d8 tr (ct8 _ ct) hl (by omega) ⟨w3, pA, pB⟩ (by rw [k88]; exact gv f0 rfl)
      refine ⟨v1, v2, v3, fun M16 e16 => ?_⟩
      obtain ⟨w1, w2, w3, w4, w5, w6⟩ := v4 M16 e16
      exact ⟨w1, w2, w3, w4, w5, fun M23 e23 => ⟨fun _ => w6 M23 e23, fun u => absurd rfl u⟩⟩
  · have y7 : l1 = 7 := h4.resolve_left y4
    subst y7
    rw [t1] at y0
    have h60 : F < 60 := by
      by_cases u : 60 ≤ F
      · exact absurd y0 (y60 u)
      · omega
    have cd' : Cod M O P V F ns L e H 1 := cd
    rw [t3, f7, Int.toNat_natCast]
    refine ⟨k6, ⟨by omega, by omega⟩, fun M50 e50 => ?_⟩
    have f50 : FI (fun b => b = p) M M50 := by rw [e50]; exact FI.ui rfl
    rw [f50.1, f50.2.1, f50.2.2.1, t3, t4, p10, np8, s3, f50.2.2.2.2.2.2 _ q21p.1, h21]
    refine ⟨k6, s1, ⟨by omega, by omega⟩, kp8, by omega, fun M57 e57 => ⟨fun u => absurd u (by decide), fun _ => ?_⟩⟩
    have f0 : ft.1 = 0 := by rw [← hFT.1]; exact y0
    have es := es2 f0 (fun u => absurd u (by decide))
    rw [if_neg (by decide), if_neg (by decide), ← hnw, ← hkd] at es
    exact sn_mono (x_sn_formula (nms := s.1) h y0 h60 cd' hn h8 hp hLa ha han hd e50 e57 ct hl (by omega) (by rw [jr, eF])) (fun M9 g => ⟨g.1, fin f0 (fun _ _ _ => rfl) y0 rfl es (by simp) g.2.1, by rw [g.2.1.2.1 2 (by decide)]; exact ha, fun _ => ⟨g.2.2.1, fun t => absurd t (by decide), fun _ => g.2.2.2, by rw [g.2.1.2.2 11 (by decide), if_neg (by decide)]⟩⟩)
  · refine ⟨⟨Ab, Be, Cm, V, F, ns, sf, ef, c, cnt, e + 1, a, h.any (fun _ => Nat.le_succ_of_le hLe), hp, ha, han, hLa, hd, trF.refl⟩, ?_⟩
    rw [t1] at y0
    have f0 : ft.1 ≠ 0 := by rw [← hFT.1]; exact y0
    have es := flt f0
    exact ⟨itZ.bad (by rw [es]; exact hFT) (by rw [es]; exact f0), ha, fun t => absurd t (by rw [es]; exact f0)⟩
end TXL
