section
/-! The class's reader of texts, exactly: settleVar. -/
section TXN
variable {G : mG} {d z q w T A B D N C n p O P K Ab Be Cm V F c sl L cnt a nw k x0 y0 x1 y1 x2 y2 Ab0 Be0 Cm0 : Nat} {M0 M M' M1 M2 Mb : mM} {ns : Nat → Int} {sf ef : Nat → Nat} {W pl nq E : Nat → Int} {Cf : Nat → Int × Int} {cv : Nat → vrs} {sm : Nat → Nat → Prop} {nms : List nm9} {s s' : st9} {ft ff : Int × Int} {tr : Int} {lo hi be : vrs}
/-- the state with one var more -/
def svN (s : st9) (nw : Nat) (t : Int) : st9 := (s.1 ++ [(nw, 3, t, (0, 0, 1))], (s.2.1.1 + 1, s.2.1.2), (0, 0))
theorem x_sv171 {l1 l2 l3 v19 v29 v39 : Int} (ht : ff.1 = 0 → l1 = v19 ∧ l2 = v29 ∧ l3 = v39) (i1 : i32 l1) (i2 : i32 l2) (i3 : i32 l3) (cs : CSm Mb q p s) (h : svS M0 z q w T A B D N C n p O P K Ab0 Be0 Cm0 V F ns sf ef c cnt L sl a nw M) (kk : svK q p O P s.1 Mb M) (hf : FT M (q + 1) ff) (hs1 : ff.1 ≠ 0 → s'.2.2 = ff) (hs2 : ff.1 = 0 → s' = svN s nw (mI Mb q 8)) : h_TR_settleVar_171 G (d + 5) q l1 l2 l3 M (fun M' => itE M0 z q w T A B D N C n p O P K Ab0 Be0 Cm0 M' ∧ itZ q p s' M' ∧ mI M' (q + 1) 2 = ((a : Nat) : Int) ∧ (s'.2.2.1 = 0 → svD p O P V L v19 v29 v39 Mb M')) := by
  obtain ⟨Ab, Be, Cm, h1, tr, hv, -, -⟩ := h
  obtain ⟨t0, t1, t2, t3, t4, t5⟩ := h1.1.2.1
  obtain ⟨k6, ⟨p4, p5, p6, -⟩, ⟨kp3, kp4, kp5, -⟩, ⟨np3, np4, np5, -⟩⟩ := h1.tab
  have c3 := h1.2.1.1.1
  refine k_TR_settleVar_171 h1.1.1.1 i1 i2 i3 ?_
  refine ⟨t0, by rw [t1]; exact h1.1.1.2.1.1, fun y0 => ?_, fun y0 => ?_⟩
  · rw [t1] at y0
    have hV : V < 12 := by
      by_cases u : 12 ≤ V
      · exact absurd y0 (hv.2.2.2.2.2.2.2.2.2.2.2 u)
      · omega
    have e8 : mI M q 8 = mI Mb q 8 := by rw [kk.2.1]
    obtain ⟨ct, -, -, ⟨gp, gO, gP⟩, -, -, g8⟩ := kk
    obtain ⟨-, j3, j7, j12, j11, jl, jv, jr⟩ := cs
    obtain ⟨h9a, h9b, h9c⟩ := ht (by rw [← hf.1]; exact y0)
    have hl : s.1.length = c := by
      have w1 := ct.1
      have w2 := h1.2.1.2.2.1.1
      omega
    have hc : c < 72 := by
      have w1 := h1.2.1.2.1.1
      have w2 := h1.2.1.2.1.2
      rw [gp] at c3 w1
      omega
    have es := hs2 (by rw [← hf.1]; exact y0)
    have fin : ∀ M9, itE M0 z q w T A B D N C n p O P K Ab0 Be0 Cm0 M9 ∧ svY M q p V s.1 (nw, 3, mI M q 8, (0, 0, 1)) M9 ∧ svD p O P V L l1 l2 l3 M M9 → itE M0 z q w T A B D N C n p O P K Ab0 Be0 Cm0 M9 ∧ itZ q p s' M9 ∧ mI M9 (q + 1) 2 = ((a : Nat) : Int) ∧ (s'.2.2.1 = 0 → svD p O P V L v19 v29 v39 Mb M9) := fun M9 g => by
      obtain ⟨g1, ⟨w1, w2, w3⟩, d1, d2, ⟨d3, d4⟩, d5, d6⟩ := g
      rw [e8] at w1
      rw [es]
      refine ⟨g1, ⟨⟨by rw [w2 3 (by decide)]; exact y0, fun u => absurd rfl u⟩, fun _ => ⟨w1, ?_, ?_, ?_, ?_, ?_, ?_, ?_⟩⟩, by rw [w2 2 (by decide)]; exact hv.2.2.2.1, fun _ => ⟨fun i i6 i15 => by rw [d1 i i6 i15, g8 i (by omega) i15], fun j => by rw [(d2 j).1, (d2 j).2.1, (d2 j).2.2, g8 3 (by omega) (by omega), g8 4 (by omega) (by omega), g8 5 (by omega) (by omega), h9a, h9b, h9c]; exact ⟨rfl, rfl, rfl⟩, ⟨by rw [d3, gO], by rw [d4, gP]⟩, d5, by rw [d6, gp]⟩⟩
      · rw [w3 3 (by decide), if_pos rfl]
        show (V : Int) + 1 = ((s.2.1.1 + 1 : Nat) : Int)
        rw [gp] at c3
        omega
      · rw [w3 7 (by decide), if_neg (by decide), gp]; exact j7
      · rw [w3 12 (by decide), if_neg (by decide), gp]; exact j12
      · rw [w3 11 (by decide), if_neg (by decide), gp]; exact j11
      · show (s.1 ++ [(nw, 3, mI Mb q 8, (0, 0, 1))]).length = s.2.1.1 + 1 + s.2.1.2.1
        rw [List.length_append, jl]
        simp
        omega
      · show vcn (s.1 ++ [(nw, 3, mI Mb q 8, (0, 0, 1))]) = s.2.1.1 + 1
        rw [vcn_app, jv]
        rfl
      · show rcn (s.1 ++ [(nw, 3, mI Mb q 8, (0, 0, 1))]) = s.2.1.2.1
        rw [rcn_app, jr]
        rfl
    rw [t3, p4, np3, c3, Int.toNat_natCast]
    refine ⟨k6, kp3, by omega, fun M122 e122 => ?_⟩
    have f122 : FI (fun b => b = p + 3) M M122 := by rw [e122]; exact FI.ui rfl
    rw [f122.1, f122.2.1, f122.2.2.1, t3, p5, np4, f122.2.2.2.2.2.2 p (by omega), c3, Int.toNat_natCast]
    refine ⟨k6, kp4, by omega, fun M127 e127 => ?_⟩
    have f127 : FI (fun b => b = p + 4) M122 M127 := by rw [e127]; exact FI.ui rfl
    rw [f127.1, f127.2.1, f127.2.2.1, f122.1, f122.2.1, f122.2.2.1, t3, p6, np5, f127.2.2.2.2.2.2 p (by omega), f122.2.2.2.2.2.2 p (by omega), c3, Int.toNat_natCast]
    refine ⟨k6, kp5, by omega, fun M132 e132 => ?_⟩
    have f132 : FI (fun b => b = p + 5) M127 M132 := by rw [e132]; exact FI.ui rfl
    have ff : FI (fun b => b = p + 3 ∨ b = p + 4 ∨ b = p + 5) M M132 := ((f122.mono (fun _ y => Or.inl y)).trans (f127.mono (fun _ y => Or.inr (Or.inl y)))).trans (f132.mono (fun _ y => Or.inr (Or.inr y)))
    have wv : ∀ j, mI M132 (p + 3) j = (if j = V then l1 else mI M (p + 3) j) ∧ mI M132 (p + 4) j = (if j = V then l2 else mI M (p + 4) j) ∧ mI M132 (p + 5) j = (if j = V then l3 else mI M (p + 5) j) := fun j => by
      rw [f132.2.2.2.2.2.2 _ (show ¬ p + 3 = p + 5 by omega), f127.2.2.2.2.2.2 _ (show ¬ p + 3 = p + 4 by omega), mI_ui _ j e122, f132.2.2.2.2.2.2 _ (show ¬ p + 4 = p + 5 by omega), mI_ui _ j e127, f122.2.2.2.2.2.2 _ (show ¬ p + 4 = p + 3 by omega), mI_ui _ j e132, f127.2.2.2.2.2.2 _ (show ¬ p + 5 = p + 4 by omega), f122.2.2.2.2.2.2 _ (show ¬ p + 5 = p + 3 by omega)]
      by_cases y : j = V
      · simp [y]
      · simp [y]
    have o132 : mOk M132 := by rw [e132]; exact mOk_UI (by rw [e127]; exact mOk_UI (by rw [e122]; exact mOk_UI h1.1.1.1 i1) i2) i3
    rw [ff.1, ff.2.2.1, t1, t3]
    have hvc : vcn s.1 = V := by
      rw [jv]
      rw [gp] at c3
      omega
    refine ⟨k6, h1.1.1.2.1.1, (x_sv_fin (l1 := l1) (l2 := l2) (l3 := l3) hvc wv h1 hv hV tr o132 ff ct hl hc).mono (fun M136 g => ?_)⟩
    obtain ⟨g1, g2, g3, g4, g5⟩ := g
    refine ⟨g1, g2, g3, g4, fun M142 e142 => ?_⟩
    obtain ⟨g6, g7⟩ := g5 M142 e142
    exact ⟨g6, fun M145 e145 => fin M145 (g7 M145 e145)⟩
  · obtain ⟨v1, v2, v3, v4, v5, v6, -⟩ := hv
    rw [t1] at y0
    have f0 : ff.1 ≠ 0 := by rw [← hf.1]; exact y0
    have es := hs1 f0
    exact ⟨⟨Ab, Be, Cm, V, F, ns, sf, ef, c, cnt, sl, a, h1.any (fun _ => v2), v1, v4, v5, v3, v6, tr⟩, itZ.bad (by rw [es]; exact hf) (by rw [es]; exact f0), v4, fun t => absurd t (by rw [es]; exact f0)⟩
theorem FT.zz {r : Nat} (h : mI M r 3 = 0) : FT M r (0, 0) := ⟨h, fun u => absurd rfl u⟩
/-- the fault of a var's begin -/
def sv2 (i7 : Int) (be : vrs) (l1 l2 p2 : Int) : Int × Int := if i7 = 0 then (0, 0) else fst9 (wh9 be p2) (if l1 ≤ be.2.1 ∧ be.2.1 ≤ l2 then (0, 0) else (9, p2))
/-- the fault of a var's range -/
def sv1 (l1 l2 p1 : Int) : Int × Int := if l1 ≤ l2 ∧ l2 - l1 < 10000 then (0, 0) else (9, p1)
theorem x_sv106 {l1 l2 v19 v29 v39 : Int} (ht : ff.1 = 0 → l1 = v19 ∧ l2 = v29 ∧ (if mI Mb q 7 = 0 then l1 else be.2.1) = v39) (hF : FMx G) (i1 : i32 l1) (i2 : i32 l2) (cs : CSm Mb q p s) (h : svS M0 z q w T A B D N C n p O P K Ab0 Be0 Cm0 V F ns sf ef c cnt L sl a nw M) (kk : svK q p O P s.1 Mb M) (hf : FT M (q + 1) ft) (hle : ft.1 = 0 → l1 ≤ l2) (h2 : ft.1 = 0 → mI Mb q 7 ≠ 0 → rwE W pl cv q p O P sl 2 x2 y2 tr Mb) (hbe : be = vlq W cv pl 0 0 x2 y2) (hff : ff = fst9 ft (sv2 (mI Mb q 7) be l1 l2 (pl x2))) (hs1 : ff.1 ≠ 0 → s'.2.2 = ff) (hs2 : ff.1 = 0 → s' = svN s nw (mI Mb q 8)) : h_TR_settleVar_106 G (d + 5) q l1 l2 M (fun M' => itE M0 z q w T A B D N C n p O P K Ab0 Be0 Cm0 M' ∧ itZ q p s' M' ∧ mI M' (q + 1) 2 = ((a : Nat) : Int) ∧ (s'.2.2.1 = 0 → svD p O P V L v19 v29 v39 Mb M')) := by
  obtain ⟨ok, t0, t1, k4, t2, k5, kA, nA, t6, k22, n22⟩ := h.pl
  have q7 : mI M q 7 = mI Mb q 7 := by rw [kk.2.1]
  refine k_TR_settleVar_106 ok i1 i2 ?_
  refine ⟨t0, by rw [t1]; exact k4, fun y => ⟨fun y2 => ?_, fun _ => ?_⟩, fun y => ?_⟩
  · have ne : ft.1 ≠ 0 := fun u => by
      have := hle u
      omega
    rw [fst9_n ne] at hff
    rw [t1, t6, n22]
    refine ⟨k22, ⟨by omega, by omega⟩, (x_sv_note (i32s (by omega) (by omega)) (by decide) (ok _ _).1 h kk hf).mono (fun M' k => ⟨k.1, x_sv171 (fun u => absurd (by rw [hff] at u; exact u) ne) i1 i2 i1 cs k.2.1 k.2.2.1 ?_ hs1 hs2⟩)⟩
    have u := k.2.2.2
    rw [fst9_n ne] at u
    rw [hff]
    exact u
  · have e7f : ff.1 = 0 → mI Mb q 7 = 0 := fun u => by
      rw [hff] at u
      have f0 := (fst9_1.mp u).1
      rw [t1] at y
      rw [← q7]
      exact y.resolve_left (fun v => v (by rw [hf.1]; exact f0))
    refine x_sv171 (fun u => ⟨(ht u).1, (ht u).2.1, by have a := (ht u).2.2; rw [if_pos (e7f u)] at a; exact a⟩) i1 i2 i1 cs h kk ?_ hs1 hs2
    rw [hff]
    rw [t1] at y
    by_cases f0 : ft.1 = 0
    · have e7 : mI Mb q 7 = 0 := by
        rw [← q7]
        exact y.resolve_left (fun u => u (by rw [hf.1]; exact f0))
      unfold sv2
      rw [if_pos e7]
      exact hf.none
    · rw [fst9_n f0]
      exact hf
  · rw [t1] at y
    have y0 : mI M (q + 1) 3 = 0 := Classical.byContradiction (fun u => y (Or.inl u))
    have y7 : mI Mb q 7 ≠ 0 := fun u => y (Or.inr (by rw [q7]; exact u))
    have f0 : ft.1 = 0 := by rw [← hf.1]; exact y0
    rw [fst9_zr f0] at hff
    unfold sv2 at hff
    rw [if_neg y7] at hff
    have hr2 := h2 f0 y7
    have e22 : mI Mb (q + 22) 2 = pl x2 := by
      obtain ⟨-, -, ⟨-, -, -, -, -, -, u⟩, -⟩ := hr2
      exact u
    have l12 := hle f0
    refine (x_sv_works (k := 2) hF (by omega) h kk (FT.zz y0) hr2).mono (fun x79 M78 k => ?_)
    rw [← hbe] at k
    obtain ⟨i79, o78, h78, k78, wv⟩ := k
    obtain ⟨-, u0, u1, w4, u2, w5, uA, vA, u6, w22, m22⟩ := h78.pl
    refine ⟨i79, o78, fun _ => ⟨u0, by rw [u2]; exact w5, by rw [u2]; exact uA, ⟨by omega, by rw [u2]; exact vA⟩⟩, fun v86 e86 => ?_⟩
    have i86 : i32 v86 := by
      rw [e86]
      split
      · exact i1
      · exact (o78 _ _).1
    rw [u2] at e86
    rcases wv with ⟨z0, z1, z2⟩ | ⟨z0, z1, z2, z3, z4⟩
    · rw [if_pos z0] at e86
      rw [fst9_n z1] at hff
      exact ⟨i86, fun u => absurd u (by omega), fun _ => x_sv171 (fun u => absurd (by rw [hff] at u; exact u) z1) i1 i2 i86 cs h78 k78 (by rw [hff]; exact z2) hs1 hs2⟩
    · rw [if_neg (by omega), z4] at e86
      rw [fst9_zr z1] at hff
      refine ⟨i86, fun u => ⟨u0, by rw [u6]; exact w22, ⟨by omega, by rw [u6, m22]; omega⟩, by rw [u1]; exact w4, ?_⟩, fun u => ?_⟩
      · rw [u1, u6]
        rw [if_neg (by omega)] at hff
        refine (x_sv_note (i32s (by omega) (by omega)) (by decide) (o78 _ _).1 h78 k78 z3).mono (fun M' k => ⟨k.1, x_sv171 (fun u => absurd (by rw [hff] at u; exact u) (by simp)) i1 i2 i86 cs k.2.1 k.2.2.1 ?_ hs1 hs2⟩)
        have v := k.2.2.2
        rw [fst9_zr rfl, k78.2.2.1.2, e22] at v
        rw [hff]
        exact v
      · rw [if_pos (by omega)] at hff
        exact x_sv171 (fun u => ⟨(ht u).1, (ht u).2.1, by have a := (ht u).2.2; rw [if_neg y7] at a; rw [e86]; exact a⟩) i1 i2 i86 cs h78 k78 (by rw [hff]; exact z3) hs1 hs2
theorem x_sv76 {l1 l2 v19 v29 v39 : Int} (ht : ff.1 = 0 → l1 = v19 ∧ l2 = v29 ∧ (if mI Mb q 7 = 0 then l1 else be.2.1) = v39) (hF : FMx G) (i1 : i32 l1) (i2 : i32 l2) (cs : CSm Mb q p s) (h : svS M0 z q w T A B D N C n p O P K Ab0 Be0 Cm0 V F ns sf ef c cnt L sl a nw M) (kk : svK q p O P s.1 Mb M) (hf : FT M (q + 1) ft) (hb : ft.1 = 0 → l1.natAbs ≤ 999999999 ∧ l2.natAbs ≤ 999999999) (h1 : ft.1 = 0 → mI Mb (q + 22) 1 = pl x1) (h2 : ft.1 = 0 → mI Mb q 7 ≠ 0 → rwE W pl cv q p O P sl 2 x2 y2 tr Mb) (hbe : be = vlq W cv pl 0 0 x2 y2) (hff : ff = fst9 (fst9 ft (sv1 l1 l2 (pl x1))) (sv2 (mI Mb q 7) be l1 l2 (pl x2))) (hs1 : ff.1 ≠ 0 → s'.2.2 = ff) (hs2 : ff.1 = 0 → s' = svN s nw (mI Mb q 8)) : h_TR_settleVar_76 G (d + 5) q l1 l2 M (fun M' => itE M0 z q w T A B D N C n p O P K Ab0 Be0 Cm0 M' ∧ itZ q p s' M' ∧ mI M' (q + 1) 2 = ((a : Nat) : Int) ∧ (s'.2.2.1 = 0 → svD p O P V L v19 v29 v39 Mb M')) := by
  obtain ⟨ok, t0, t1, k4, t2, k5, kA, nA, t6, k22, n22⟩ := h.pl
  have ew : ft.1 = 0 → w32 (l2 - l1) = l2 - l1 := fun u => by
    obtain ⟨b1, b2⟩ := hb u
    exact w32_id ⟨by omega, by omega⟩
  have v0 : ∀ {f : Int × Int}, f = fst9 ft (sv1 l1 l2 (pl x1)) → f.1 = 0 → ft.1 = 0 ∧ l1 ≤ l2 := fun {f} e u => by
    rw [e] at u
    obtain ⟨u1, u2⟩ := fst9_1.mp u
    refine ⟨u1, Classical.byContradiction (fun v => ?_)⟩
    unfold sv1 at u2
    rw [if_neg (fun t => v t.1)] at u2
    exact absurd u2 (by simp)
  refine k_TR_settleVar_76w ok i1 i2 ⟨trivial, fun y => ?_, fun y => ?_⟩
  · rw [t1, t6, n22]
    refine ⟨t0, k22, ⟨by omega, by omega⟩, k4, (x_sv_note (i32s (by omega) (by omega)) (by decide) (ok _ _).1 h kk hf).mono (fun M' k => ⟨k.1, x_sv106 (ft := fst9 ft (sv1 l1 l2 (pl x1))) ht hF i1 i2 cs k.2.1 k.2.2.1 ?_ (fun u => (v0 rfl u).2) (fun u => h2 (v0 rfl u).1) hbe hff hs1 hs2⟩)⟩
    have v := k.2.2.2
    by_cases f0 : ft.1 = 0
    · rw [ew f0] at y
      rw [kk.2.2.1.2, h1 f0] at v
      unfold sv1
      rw [if_neg (by omega)]
      exact v
    · rw [fst9_n f0] at v ⊢
      exact v
  · refine x_sv106 (ft := fst9 ft (sv1 l1 l2 (pl x1))) ht hF i1 i2 cs h kk ?_ (fun u => (v0 rfl u).2) (fun u => h2 (v0 rfl u).1) hbe hff hs1 hs2
    by_cases f0 : ft.1 = 0
    · rw [ew f0] at y
      unfold sv1
      rw [if_pos (by omega)]
      exact hf.none
    · rw [fst9_n f0]
      exact hf
/-- the faults of a var's values -/
def sv9 (t8 i7 : Int) (lo hi be : vrs) (p0 p1 p2 : Int) : Int × Int := fst9 (if t8 = 1 then (0, 0) else fst9 (fst9 (wh9 lo p0) (wh9 hi p1)) (if lo.2.1 ≤ hi.2.1 ∧ hi.2.1 - lo.2.1 < 10000 then (0, 0) else (9, p1))) (if i7 = 0 then (0, 0) else (if t8 = 1 then wh9 be p2 else fst9 (wh9 be p2) (if lo.2.1 ≤ be.2.1 ∧ be.2.1 ≤ hi.2.1 then (0, 0) else (9, p2))))
theorem rwE.p22 {k x y : Nat} (h : rwE W pl cv q p O P sl k x y tr M) : mI M (q + 22) k = pl x := by
  obtain ⟨-, -, ⟨-, -, -, -, -, -, u⟩, -⟩ := h
  exact u
theorem wh9_z {v : vrs} {pp : Int} (h : (wh9 v pp).1 = 0) : v.1 = 0 ∧ v.2.2 = 1 := by
  unfold wh9 at h
  by_cases c1 : v.1 = 0
  · rw [if_neg (fun u => u c1)] at h
    refine ⟨c1, Classical.byContradiction (fun u => ?_)⟩
    rw [if_pos u] at h
    exact absurd h (by simp)
  · rw [if_pos c1] at h
    exact absurd h c1
theorem x_TR_settleVar (hF : FMx G) (h : TX M z q w T A B D N C n p O P K Ab Be Cm V F ns sf ef c cnt L) (hv : vrS M q A n p L sl a nw V) (h8 : mI M q 8 = 0 → rvR M q O P F ns L sl 0 ∧ rvR M q O P F ns L sl 1) (h7 : mI M q 7 ≠ 0 → rvR M q O P F ns L sl 2) (hf : FT M (q + 1) ft) (cs : ft.1 = 0 → CSm M q p s) (r01 : ft.1 = 0 → mI M q 8 = 0 → rwE W pl cv q p O P sl 0 x0 y0 0 M ∧ rwE W pl cv q p O P sl 1 x1 y1 0 M) (r2 : ft.1 = 0 → mI M q 7 ≠ 0 → rwE W pl cv q p O P sl 2 x2 y2 (mI M q 8) M) (hlo : lo = vlq W cv pl 0 0 x0 y0) (hhi : hi = vlq W cv pl 0 0 x1 y1) (hbe : be = vlq W cv pl 0 0 x2 y2) (hs0 : ft.1 ≠ 0 → s'.2.2 = ft) (hs1 : ft.1 = 0 → (sv9 (mI M q 8) (mI M q 7) lo hi be (pl x0) (pl x1) (pl x2)).1 ≠ 0 → s'.2.2 = sv9 (mI M q 8) (mI M q 7) lo hi be (pl x0) (pl x1) (pl x2)) (hs2 : ft.1 = 0 → (sv9 (mI M q 8) (mI M q 7) lo hi be (pl x0) (pl x1) (pl x2)).1 = 0 → s' = svN s nw (mI M q 8)) : Cv G y_TR_settleVar (d + 6) [vr q] M (fun M' => itE M z q w T A B D N C n p O P K Ab Be Cm M' ∧ itZ q p s' M' ∧ mI M' (q + 1) 2 = ((a : Nat) : Int) ∧ (s'.2.2.1 = 0 → svD p O P V L (if mI M q 8 = 1 then 0 else lo.2.1) (if mI M q 8 = 1 then 1 else hi.2.1) (if mI M q 7 = 0 then (if mI M q 8 = 1 then 0 else lo.2.1) else be.2.1) M M')) := by
  have hs : svS M z q w T A B D N C n p O P K Ab Be Cm V F ns sf ef c cnt L sl a nw M := ⟨Ab, Be, Cm, h, trF.refl, hv, h8, h7⟩
  obtain ⟨ok, t0, t1, k4, t2, k5, kA, nA, t6, k22, n22⟩ := hs.pl
  have h801 : mI M q 8 = 0 ∨ mI M q 8 = 1 := hv.2.2.2.2.2.2.2.2.2.2.1
  by_cases f0 : ft.1 = 0
  · have cs := cs f0
    have r01 := r01 f0
    have r2 := r2 f0
    have hs1 := hs1 f0
    have hs2 := hs2 f0
    have f3 : mI M (q + 1) 3 = 0 := by rw [hf.1]; exact f0
    have kk : svK q p O P s.1 M M := ⟨cs.1, rfl, ⟨rfl, rfl⟩, ⟨rfl, rfl, rfl⟩, rfl, rfl, fun _ _ _ => rfl⟩
    refine k_TR_settleVar ok ?_
    refine ⟨t0, by rw [t1]; exact k4, fun y => ?_, fun y => ?_⟩
    rotate_left
    · rw [t1] at y
      have t8 : mI M q 8 = 1 := h801.resolve_left (fun u => y ⟨f3, u⟩)
      have e9 : sv9 (mI M q 8) (mI M q 7) lo hi be (pl x0) (pl x1) (pl x2) = fst9 (0, 0) (sv2 (mI M q 7) be 0 1 (pl x2)) := by
        unfold sv9 sv2
        rw [if_pos t8, if_pos t8]
        by_cases i7 : mI M q 7 = 0
        · rw [if_pos i7, if_pos i7]
        · rw [if_neg i7, if_neg i7, fst9_0, fst9_0]
          by_cases wz : (wh9 be (pl x2)).1 = 0
          · have g := (r2 i7).gd
            rw [← hbe, t8] at g
            obtain ⟨z1, z2⟩ := wh9_z wz
            have g2 := (g.resolve_right (fun u => by omega)).2.2.2.2 rfl
            have ew : wh9 be (pl x2) = (0, 0) := by
              unfold wh9
              rw [if_neg (fun u => u z1), if_neg (fun u => u z2)]
            rw [ew, if_pos (by omega), fst9_0]
          · rw [fst9_n wz]
      exact x_sv106 (ft := (0, 0)) (x2 := x2) (y2 := y2) (fun _ => by rw [if_pos t8, if_pos t8]; exact ⟨rfl, rfl, rfl⟩) hF (i32s (by omega) (by omega)) (i32s (by omega) (by omega)) cs hs kk (FT.zz f3) (fun _ => by omega) (fun _ u => r2 u) hbe e9 hs1 hs2
    rw [t1] at y
    obtain ⟨r0, r1⟩ := r01 y.2
    have g0 := r0.gd
    have g1 := r1.gd
    rw [← hlo] at g0
    rw [← hhi] at g1
    have p1 := r1.p22
    have e9 : sv9 (mI M q 8) (mI M q 7) lo hi be (pl x0) (pl x1) (pl x2) = fst9 (fst9 (fst9 (wh9 lo (pl x0)) (wh9 hi (pl x1))) (sv1 lo.2.1 hi.2.1 (pl x1))) (sv2 (mI M q 7) be lo.2.1 hi.2.1 (pl x2)) := by
      unfold sv9 sv1 sv2
      rw [y.2, if_neg (show ¬ (0:Int) = 1 by decide), if_neg (show ¬ (0:Int) = 1 by decide)]
    generalize eF : sv9 (mI M q 8) (mI M q 7) lo hi be (pl x0) (pl x1) (pl x2) = ff at hs1 hs2 e9
    refine (x_sv_works (k := 0) hF (by omega) hs kk (FT.zz f3) r0).mono (fun x8 M7 k => ?_)
    rw [← hlo] at k
    obtain ⟨i8, o7, h7', k7, wv⟩ := k
    obtain ⟨-, u0, u1, w4, u2, w5, uA, vA, u6, w22, m22⟩ := h7'.pl
    refine ⟨i8, o7, fun _ => ⟨u0, by rw [u2]; exact w5, by rw [u2]; exact uA, ⟨by omega, by rw [u2]; exact vA⟩⟩, fun v15 e15 => ?_⟩
    have i15 : i32 v15 := by
      rw [e15]
      split
      · exact i32s (by omega) (by omega)
      · exact (o7 _ _).1
    rw [u2] at e15
    rcases wv with ⟨z0, z1, z2⟩ | ⟨z0, z1, z2, z3, z4⟩
    · rw [fst9_n z1, fst9_n z1, fst9_n z1] at e9
      refine ⟨u0, by rw [u1]; exact w4, fun y3 => ?_, fun _ => ?_⟩
      · rw [u1] at y3
        exact absurd (by rw [← z2.1]; exact y3) z1
      · exact x_sv76 (ft := wh9 lo (pl x0)) (x1 := x1) (x2 := x2) (y2 := y2) (tr := mI M q 8) (fun u => absurd (by rw [e9] at u; exact u) z1) hF i15 i15 cs h7' k7 z2 (fun u => absurd u z1) (fun u => absurd u z1) (fun u => absurd u z1) hbe (by rw [fst9_n z1, fst9_n z1]; exact e9) hs1 hs2
    · rw [if_neg (by omega), z4] at e15
      have ew : wh9 lo (pl x0) = (0, 0) := by
        obtain ⟨w1, w2⟩ := wh9_z z1
        unfold wh9
        rw [if_neg (fun u => u w1), if_neg (fun u => u w2)]
      rw [ew, fst9_0] at e9
      have b0 : v15.natAbs ≤ 999999999 := by rw [e15]; exact (g0.un z2).1
      refine ⟨u0, by rw [u1]; exact w4, fun y3 => ?_, fun y3 => ?_⟩
      rotate_left
      · rw [u1] at y3
        exact absurd z3.1 y3
      refine (x_sv_works (k := 1) hF (by omega) h7' k7 z3 r1).mono (fun x23 M22 k => ?_)
      rw [← hhi] at k
      obtain ⟨i23, o22, h22, k22', wv⟩ := k
      obtain ⟨-, a0, a1, b4, a2, b5, aA, bA, a6, b22, c22⟩ := h22.pl
      rcases wv with ⟨s0, s1, s2⟩ | ⟨s0, s1, s2, s3, s4⟩
      · rw [fst9_n s1, fst9_n s1] at e9
        exact ⟨i23, o22, fun _ => x_sv76 (ft := wh9 hi (pl x1)) (x1 := x1) (x2 := x2) (y2 := y2) (tr := mI M q 8) (fun u => absurd (by rw [e9] at u; exact u) s1) hF i15 i15 cs h22 k22' s2 (fun u => absurd u s1) (fun u => absurd u s1) (fun u => absurd u s1) hbe (by rw [fst9_n s1, fst9_n s1]; exact e9) hs1 hs2, fun u => absurd s0 u⟩
      · have eh : wh9 hi (pl x1) = (0, 0) := by
          obtain ⟨w1, w2⟩ := wh9_z s1
          unfold wh9
          rw [if_neg (fun u => u w1), if_neg (fun u => u w2)]
        rw [eh] at e9
        refine ⟨i23, o22, fun u => absurd u (by omega), fun _ => ⟨a0, by rw [a2]; exact b5, by rw [a2]; exact aA, ⟨by omega, by rw [a2]; exact bA⟩, ?_⟩⟩
        rw [a2]
        refine x_sv76 (ft := (0, 0)) (x1 := x1) (x2 := x2) (y2 := y2) (tr := mI M q 8) (fun _ => by rw [if_neg (show ¬ mI M q 8 = 1 by omega), if_neg (show ¬ mI M q 8 = 1 by omega), e15, s4]; exact ⟨rfl, rfl, rfl⟩) hF i15 (o22 _ _).1 cs h22 k22' s3 (fun _ => ⟨b0, by rw [s4]; exact (g1.un s2).1⟩) (fun _ => p1) (fun _ u => r2 u) hbe ?_ hs1 hs2
        rw [s4, e15]
        exact e9
  · have f3 : mI M (q + 1) 3 ≠ 0 := by rw [hf.1]; exact f0
    have es := hs0 f0
    obtain ⟨v1, v2, v3, v4, v5, v6, -⟩ := hv
    have fin : itE M z q w T A B D N C n p O P K Ab Be Cm M ∧ itZ q p s' M ∧ mI M (q + 1) 2 = ((a : Nat) : Int) ∧ (s'.2.2.1 = 0 → svD p O P V L (if mI M q 8 = 1 then 0 else lo.2.1) (if mI M q 8 = 1 then 1 else hi.2.1) (if mI M q 7 = 0 then (if mI M q 8 = 1 then 0 else lo.2.1) else be.2.1) M M) := ⟨⟨Ab, Be, Cm, V, F, ns, sf, ef, c, cnt, sl, a, h.any (fun _ => v2), v1, v4, v5, v3, v6, trF.refl⟩, itZ.bad (by rw [es]; exact hf) (by rw [es]; exact f0), v4, fun t => absurd t (by rw [es]; exact f0)⟩
    refine k_TR_settleVar ok ⟨t0, by rw [t1]; exact k4, fun y => absurd (by rw [t1] at y; exact y.1) f3, fun _ => ?_⟩
    refine k_TR_settleVar_106 ok (i32s (by omega) (by omega)) (i32s (by omega) (by omega)) ⟨t0, by rw [t1]; exact k4, fun _ => ⟨fun u => absurd u (by omega), fun _ => ?_⟩, fun y => absurd (Or.inl (by rw [t1]; exact f3)) y⟩
    exact k_TR_settleVar_171 ok (i32s (by omega) (by omega)) (i32s (by omega) (by omega)) (i32s (by omega) (by omega)) ⟨t0, by rw [t1]; exact k4, fun y => absurd (by rw [t1] at y; exact y) f3, fun _ => fin⟩
end TXN
end
section
/-! The class's reader of texts, exactly: sets: bits of the vars that are set, names, one step of the pure sets. -/
theorem i_or9 {l m : Nat} (hl : l < 2147483648) (hm : m < 2147483648) : orI (l : Int) (m : Int) = ((l ||| m : Nat) : Int) := by
  unfold orI
  show (BitVec.ofInt 32 (l : Int) ||| BitVec.ofInt 32 (m : Int)).toInt = _
  have hb : ∀ x : Nat, x < 2147483648 → (BitVec.ofInt 32 (x : Int)).toNat = x := fun x hx => by
    rw [BitVec.toNat_ofInt]
    show ((x : Int) % 4294967296).toNat = x
    omega
  have hx : l ||| m < 2147483648 := Nat.or_lt_two_pow (n := 31) hl hm
  rw [BitVec.toInt_eq_toNat_cond, BitVec.toNat_or, hb l hl, hb m hm, if_pos (by omega)]
/-- the bit u of l -/
def sbt (l u : Nat) : Prop := l / 2 ^ u % 2 = 1
theorem sb_or {l u v : Nat} : sbt (l ||| 2 ^ v) u ↔ (sbt l u ∨ v = u) := by
  have h := Nat.testBit_or l (2 ^ v) u
  rw [Nat.testBit_eq_decide_div_mod_eq, Nat.testBit_eq_decide_div_mod_eq, Nat.testBit_two_pow, ← Bool.decide_or] at h
  exact decide_eq_decide.mp h
theorem sb_lt {l v : Nat} (hl : l < 4096) (hv : v < 12) : l ||| 2 ^ v < 4096 := Nat.or_lt_two_pow (n := 12) hl (Nat.pow_lt_pow_right (by decide) hv)
theorem sb_shl {v : Nat} (hv : v < 12) : shlI 1 (v : Int) = ((2 ^ v : Nat) : Int) := by
  have h : ∀ v, v < 12 → shlI 1 ((v : Nat) : Int) = ((2 ^ v : Nat) : Int) := by decide
  exact h v hv
theorem sb_and {l v : Nat} (hl : l < 4096) (hv : v < 12) : andI (shrI (l : Int) (v : Int)) 1 = 0 ↔ ¬ sbt l v := by
  rw [i_shr v (by omega) ⟨by omega, by omega⟩, i_and 1 (by decide) 1 (by decide) ⟨by decide, by decide⟩]
  have e : (l : Int) / 2 ^ v % 2 ^ 1 = ((l / 2 ^ v % 2 : Nat) : Int) := by norm_cast
  rw [e]
  unfold sbt
  omega
section TXO
variable {G : mG} {d z r q w T A B D N C n p O P K c V F k f i a : Nat} {M M' : mM} {ns : Nat → Int} {W pl nq : Nat → Int} {sm : Nat → Nat → Prop} {nms : List nm9} {seen : List Nat} {e : nm9}
theorem sefc_none (h : fnd9 sm nms (k + 1) = none) : sef W pl sm N nms (f + 1) k seen = ((2, pl (k + 1)), k) := by
  unfold sef
  rw [h]
theorem sefc_some (h : fnd9 sm nms (k + 1) = some e) : sef W pl sm N nms (f + 1) k seen = if e.2.1 ≠ 3 then ((2, pl (k + 1)), k) else if e.1 ∈ seen then ((4, pl (k + 1)), k) else if (rf9 W pl sm nms 0 e.2.2.1 (k + 4) (cpq W (k + 4) N)).1 ≠ 0 then (rf9 W pl sm nms 0 e.2.2.1 (k + 4) (cpq W (k + 4) N), k) else if W (cpq W (k + 4) N + 1) = 29 then sef W pl sm N nms f (cpq W (k + 4) N + 2) (e.1 :: seen) else ((0, 0), cpq W (k + 4) N + 1) := by
  conv => lhs; unfold sef
  rw [h]
/-- the first name of its word -/
def fst1 (nms : List nm9) (i : Nat) (e : nm9) : Prop := nms[i]? = some e ∧ ∀ (j : Nat) (e' : nm9), j < i → nms[j]? = some e' → e'.1 ≠ e.1
/-- which vars have been set -/
def snq (M : mM) (r : Nat) (nms : List nm9) (l : Nat) (seen : List Nat) : Prop := ∀ (i : Nat) (e : nm9), fst1 nms i e → e.2.1 = 3 → (sbt l (mI M (r + 8) i).toNat ↔ e.1 ∈ seen)
theorem snq.nil : snq M r nms 0 [] := fun i e _ _ => by
  unfold sbt
  simp
theorem snq.add {l v : Nat} (h : snq M r nms l seen) (ct : CT M r p nms) (tn : TN M r A n V F ns c) (hl : nms.length = c) (h1 : fst1 nms i e) (h3 : e.2.1 = 3) (hv : mI M (r + 8) i = (v : Int)) : snq M r nms (l ||| 2 ^ v) (e.1 :: seen) := fun j e' j1 j3 => by
  have jc : j < c := by rw [← hl]; exact (List.getElem?_eq_some_iff.mp j1.1).1
  have j0 : 0 ≤ mI M (r + 8) j := by
    obtain ⟨-, u, -⟩ := tn.2.2 j jc
    rcases u with u | u
    · exact u.2.1
    · exact u.2.1
  rw [sb_or, h j e' j1 j3, List.mem_cons]
  have key : v = (mI M (r + 8) j).toNat ↔ e'.1 = e.1 := by
    refine ⟨fun u => ?_, fun u => ?_⟩
    · have : j = i := (ct.2 i e h1.1).2.2.2.2.2.1 h3 j e' j1.1 j3 (by rw [hv, u, Int.toNat_of_nonneg j0])
      subst this
      have ee := j1.1.symm.trans h1.1
      rw [Option.some.inj ee]
    · have : j = i := by
        rcases Nat.lt_trichotomy j i with y | y | y
        · exact absurd u (h1.2 j e' y j1.1)
        · exact y
        · exact absurd u.symm (j1.2 i e y h1.1)
      rw [this, hv, Int.toNat_natCast]
  rw [key]
  exact Or.comm
/-- what find finds is the first of its word -/
theorem fm_fst {v : Nat} (ct : CT M r p nms) (h : fm M r T B D nms.length v i) (z : nms[i]? = some e) : fst1 nms i e := by
  refine ⟨z, fun j e' hj z' u => ?_⟩
  refine h.2.2 j hj ?_
  rw [(ct.2 j e' z').1, u, ← (ct.2 i e z).1]
  exact h.2.1
/-- varOf, exactly -/
theorem x_RR_varOf {v : Nat} (h : RB M z r w T A B D N C n p O P K) (nk : NK M r A n V F ns c) (hv : v < n) (h2 : mI M A v = 2) (h6 : mI M r 6 = 0) : Ci G y_RR_varOf (d + 2) [vr r, vi v] M (fun x M' => M' = M ∧ (x = -1 ∨ (0 ≤ x ∧ x < V)) ∧ ((nmn M r T B D c v ∧ x = -1) ∨ ∃ i : Nat, fm M r T B D c v i ∧ x = if mI M (r + 7) i = 5 then mI M (r + 8) i else -1)) := by
  obtain ⟨-, ⟨k0, ⟨-, -, -, -, -, -, q16, q17, q18⟩, ⟨-, -, -, -, -, -, kk7, kk8, kk9⟩, ⟨-, -, -, -, -, -, nn7, nn8, nn9⟩⟩, -⟩ := id h
  have hn := h.2.2.2.1.2.2.1
  have hN := h.2.2.2.1.1.2.2.2.2.2.2.1
  refine k_RR_varOf h.1 (i32s (by omega) (by omega)) ⟨k0, (x_RR_find h nk hv h2).mono (fun x3 M2 q => ?_)⟩
  obtain ⟨e2, hx⟩ := q
  subst e2
  rw [q16, q17, nn7, nn8]
  have hc := nk.2.1
  have hx0 : x3 = -1 ∨ ∃ i : Nat, x3 = i ∧ i < c := hx.imp (fun u => u.1) (fun ⟨i, u, v⟩ => ⟨i, u, v.1⟩)
  have hi3 : i32 x3 := by
    clear hx
    rcases hx0 with u | ⟨i, u, hi⟩ <;> rw [u] <;> exact i32s (by omega) (by omega)
  have rng : x3 ≠ -1 → (0 : Int) ≤ x3 ∧ x3 < ((72 : Nat) : Int) := fun y => by
    clear hx
    rcases hx0 with u | ⟨i, u, hi⟩
    · exact absurd u y
    · omega
  refine ⟨hi3, h.1, fun y => ⟨k0, kk7, rng y, fun _ => ⟨kk8, rng y⟩⟩, fun v12 e12 => ⟨rfl, ?_, ?_⟩⟩
  · clear hx0
    rcases hx with ⟨u, -⟩ | ⟨i, u, hi⟩
    · rw [if_pos (Or.inl u)] at e12
      exact Or.inl e12
    · rw [u, Int.toNat_natCast] at e12
      by_cases y : mI M2 (r + 7) i = 5
      · rw [if_neg (fun q => q.elim (fun v => by omega) (fun v => v y))] at e12
        rcases (nk.2.2 i hi.1).2.1 with ⟨-, v1, v2⟩ | ⟨v0, -⟩ | ⟨v0, -⟩
        · rw [e12]
          exact Or.inr ⟨v1, v2 h6⟩
        · exact absurd y (by omega)
        · exact absurd y (by omega)
      · rw [if_pos (Or.inr y)] at e12
        exact Or.inl e12
  · clear hx0
    rcases hx with ⟨u, u2⟩ | ⟨i, u, hi⟩
    · rw [if_pos (Or.inl u)] at e12
      exact Or.inl ⟨u2, e12⟩
    · rw [u, Int.toNat_natCast] at e12
      refine Or.inr ⟨i, hi, ?_⟩
      by_cases y : mI M2 (r + 7) i = 5
      · rw [if_neg (fun q => q.elim (fun v => by omega) (fun v => v y))] at e12
        rw [if_pos y]
        exact e12
      · rw [if_pos (Or.inr y)] at e12
        rw [if_neg y]
        exact e12
theorem x_RR_kindOf {v : Nat} (h : RB M z r w T A B D N C n p O P K) (nk : NK M r A n V F ns c) (hv : v < n) (h2 : mI M A v = 2) : Ci G y_RR_kindOf (d + 2) [vr r, vi v] M (fun x M' => M' = M ∧ (0 ≤ x ∧ x ≤ 2) ∧ ((nmn M r T B D c v ∧ x = 0) ∨ ∃ i : Nat, fm M r T B D c v i ∧ x = if mI M (r + 9) i = 0 then 1 else 2)) := by
  obtain ⟨-, ⟨k0, ⟨-, -, -, -, -, -, q16, q17, q18⟩, ⟨-, -, -, -, -, -, kk7, kk8, kk9⟩, ⟨-, -, -, -, -, -, nn7, nn8, nn9⟩⟩, -⟩ := id h
  have hn := h.2.2.2.1.2.2.1
  have hN := h.2.2.2.1.1.2.2.2.2.2.2.1
  refine k_RR_kindOf h.1 (i32s (by omega) (by omega)) ⟨k0, (x_RR_find h nk hv h2).mono (fun x3 M2 q => ?_)⟩
  obtain ⟨e2, hx⟩ := q
  subst e2
  rw [q18, nn9]
  have hc := nk.2.1
  have hx0 : x3 = -1 ∨ ∃ i : Nat, x3 = i ∧ i < c := hx.imp (fun u => u.1) (fun ⟨i, u, v⟩ => ⟨i, u, v.1⟩)
  have hi3 : i32 x3 := by
    clear hx
    rcases hx0 with u | ⟨i, u, hi⟩ <;> rw [u] <;> exact i32s (by omega) (by omega)
  refine ⟨hi3, h.1, fun y => ⟨k0, kk9, ?_⟩, fun v12 e12 => ⟨rfl, ?_, ?_⟩⟩
  · clear hx
    rcases hx0 with u | ⟨i, u, hi⟩
    · exact absurd u y
    · omega
  · clear hx hx0
    rw [e12]
    (repeat' split) <;> omega
  · clear hx0
    rcases hx with ⟨u, u2⟩ | ⟨i, u, hi⟩
    · rw [if_pos u] at e12
      exact Or.inl ⟨u2, e12⟩
    · rw [u, if_neg (by omega), Int.toNat_natCast] at e12
      exact Or.inr ⟨i, hi, e12⟩
end TXO
end
