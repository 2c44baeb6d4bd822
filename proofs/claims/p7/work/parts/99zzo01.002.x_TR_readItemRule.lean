section
section
variable {G : mG} {d z q w T A B D N C n p O P K Ab Be Cm V F c s L L' cnt Bn a d0 V1 F1 : Nat} {M0 M M' M1 M2 : mM} {ns ns' ns1 : Nat → Int} {sf ef sf' ef' : Nat → Nat} {H : Nat → Nat} {S R : Nat → Prop} {W pl nq : Nat → Int} {sm : Nat → Nat → Prop} {nms : List nm9} {u : Ru} {ft : Int × Int} {zz zr : List Int}
theorem x_TR_readItemRule {k : Nat} {l2 : Int} (hk : k < 3) (i2 : i32 l2) (h : TX M z q w T A B D N C n p O P K Ab Be Cm V F ns sf ef c cnt L) (ha : mI M (q + 1) 2 = a) (han : a ≤ n) (hs : mI M p 2 = s) (hLs : L ≤ s) (hsa : s ≤ a) (hd : mI M (q + 1) 5 = d0) (hd4 : d0 ≤ 40) (nk : NK M (q + 1) A n V1 F1 ns1 c) (wt : WTq M T A B D n W pl nq sm) (hF : FT M (q + 1) ft) (hD : mI M (q + 1) 5 = slv zz) (hz : ∀ j, lwx (W j) = 3 → Rf W zz j j) (hR : Rc W [50] 0 (61 :: zz) a) : Ci G y_TR_readItemRule (d + 5) [vr q, vi k, vi l2] M (fun x M' => irQ M z q w T A B D N C n p O P K Ab Be Cm V F ns sf ef c cnt L s V1 F1 ns1 a k x M' ∧ (∀ i, mI M' (q + 22) i = if i = k then pl a else mI M (q + 22) i) ∧ ∃ E Cf, ECq M (q + 1) p n W nq sm nms c (mI M (q + 1) 6) E Cf ∧ irV W pl E Cf q p O P s a ft zz l2 x M') := by
  have ap := h.1.apart
  have qp := h.1.2.2.2.2.2.1.2.1
  have ok := h.1.1.1
  obtain ⟨t0, t1, t2, t3, t4, t5⟩ := h.1.2.1
  obtain ⟨s1, s2, s3, s4⟩ := h.1.2.2.1
  have hN : n ≤ 16384 := by have := h.1.1.2.2.2.1.2.2.1; have := h.1.1.2.2.2.1.1.2.2.2.2.2.2.1; omega
  refine k_TR_readItemRule ok (i32s (by omega) (by omega)) i2 ?_
  rw [t3, t4, s3, Int.toNat_natCast, hs]
  refine ⟨t0, h.1.1.2.2.2.2.1.1, s1, by omega, fun M5 e5 => ?_⟩
  obtain ⟨h5, x5, g5⟩ := tx_ui h ⟨by omega, by omega⟩ e5 (Or.inr (Or.inl rfl))
  have a5 : mI M5 (q + 1) 2 = a := by rw [g5, if_neg (by omega)]; exact ha
  rw [h5.1.2.1.2.1]
  refine ⟨h5.1.1.2.1.1, (s_RR_here h5.1.1 a5 han).mono (fun x9 M8 kk => ?_)⟩
  obtain ⟨e8, ex9, x0, x1⟩ := kk
  subst e8
  rw [h5.1.2.1.2.2.2.2.2, h5.1.2.2.1.2.2.2]
  refine ⟨i32s (by omega) (by omega), h5.1.1.1, h5.1.2.2.1.2.1, by omega, fun M13 e13 => ?_⟩
  obtain ⟨h13, x13, g13⟩ := tx_ui h5 (i32s (by omega) (by omega)) e13 (Or.inr (Or.inr (Or.inl rfl)))
  have gg : ∀ b i, b ≠ q + 21 → b ≠ q + 22 → mI M13 b i = mI M b i := fun b i b1 b2 => by rw [g13, if_neg (by omega), g5, if_neg (by omega)]
  have ff : ∀ b, b ≠ q + 21 → b ≠ q + 22 → mI M13 b = mI M b := fun b b1 b2 => by funext i; exact gg b i b1 b2
  have nk13 : NK M13 (q + 1) A n V1 F1 ns1 c := by
    unfold NK at nk ⊢
    rw [ff A (fun u => (h.1.2.2.2.2.2.1.2.2 A (by omega)).1 (by omega)) (fun u => (h.1.2.2.2.2.2.1.2.2 A (by omega)).1 (by omega)), gg (q + 1) 19 (by omega) (by omega), gg (q + 1) 6 (by omega) (by omega), ff (q + 1 + 6) (by omega) (by omega), ff (q + 1 + 7) (by omega) (by omega), ff (q + 1 + 8) (by omega) (by omega), ff (q + 1 + 9) (by omega) (by omega)]
    exact nk
  have hw13 : ∀ i, i < c → ∃ v : Nat, mI M13 (q + 1 + 6) i = v ∧ v < n ∧ mI M13 A v = 2 := fun i hi => (nk13.2.2 i hi).1
  have wt13 : WTq M13 T A B D n W pl nq sm := wt.fi h.1 (x5.1.trans x13.1)
  obtain ⟨E, Cf, uq, big, ec⟩ := uq_ex (p := p) (nms := nms) (c := c) wt13 hw13 rfl
  have ecq : ECq M (q + 1) p n W nq sm nms c (mI M (q + 1) 6) E Cf := by
    refine ⟨big, fun ct hl => ?_⟩
    have e6 : mI M13 (q + 1) 6 = mI M (q + 1) 6 := gg _ _ (by omega) (by omega)
    have ct13 : CT M13 (q + 1) p nms := by
      unfold CT at ct ⊢
      rw [gg (q + 1) 19 (by omega) (by omega), ff (q + 1 + 6) (by omega) (by omega), ff (q + 1 + 7) (by omega) (by omega), ff (q + 1 + 8) (by omega) (by omega), ff (q + 1 + 9) (by omega) (by omega), ff (p + 6) (by omega) (by omega), ff (p + 7) (by omega) (by omega)]
      exact ct
    have := ec ct13 hl
    rw [e6, ff (q + 1 + 7) (by omega) (by omega), ff (q + 1 + 8) (by omega) (by omega)] at this
    exact this
  have f13 : txF M q p O P s M13 := by
    have u := x5.trans x13
    exact ⟨u.1, u.2.1, u.2.2.1, u.2.2.2.1, u.2.2.2.2.1, u.2.2.2.2.2.1, fun i _ => ⟨gg O i (by omega) (by omega), gg P i (by omega) (by omega)⟩⟩
  rw [h13.1.2.1.2.1]
  refine ⟨h13.1.2.1.1, h13.1.1.2.1.1, (x_tx_rule (u := (W, E, pl, Cf, (a, ft), (zz, 6), ([50], 0))) i2 (i32s (by omega) (by omega)) h13 (by rw [gg _ _ (by omega) (by omega)]; exact ha) han (by rw [gg p 2 (by omega) (by omega)]; exact hs) hLs hsa (by rw [gg _ _ (by omega) (by omega)]; exact hd) hd4 nk13 (uq _) rfl (hF.same (gg _ _ (by omega) (by omega)) (gg _ _ (by omega) (by omega))) (by rw [gg _ _ (by omega) (by omega)]; exact hD) ⟨fun y => absurd y (by decide), fun _ => rfl⟩ hz hR).mono (fun x18 M17 kk => ?_)⟩
  obtain ⟨i18, o17, ⟨r1, r2, ⟨r3, r4, r5, r6⟩, r7⟩, a9, ea9, rv⟩ := kk
  have T21 : ∀ i, mI M17 (q + 21) i = if i = k then (s : Int) else mI M (q + 21) i := fun i => by
    rw [r5, g13, if_neg (by omega), g5]
    by_cases y : i = k
    · rw [if_pos ⟨rfl, y⟩, if_pos y]
    · rw [if_neg (fun u => y u.2), if_neg y]
  have T22 : ∀ i, mI M17 (q + 22) i = if i = k then pl a else mI M (q + 22) i := fun i => by
    have eB : x9 = pl a := by rw [ex9, (h.1.words x5.1).2.1]; exact (wt.1 a han).2.2
    rw [r6, g13]
    by_cases y : i = k
    · rw [if_pos ⟨rfl, y⟩, if_pos y, eB]
    · rw [if_neg (fun u => y u.2), if_neg y, g5, if_neg (by omega)]
  have b6 : mI M17 (q + 1) 6 = mI M (q + 1) 6 := by rw [r3, gg _ _ (by omega) (by omega)]
  have bq : mI M17 q = mI M q := by rw [r4, ff _ (by omega) (by omega)]
  refine ⟨i18, o17, fun y => ?_, fun y => ?_⟩
  · obtain ⟨-, a', u1, u2⟩ := r7.resolve_right (fun u => by have := u.1; omega)
    refine ⟨⟨r1, f13.trans r2, ⟨b6, bq, T21⟩, Or.inl ⟨rfl, a', u1, u2⟩⟩, T22, E, Cf, ecq, a9, ea9, Or.inl ⟨rfl, ?_⟩⟩
    rcases rv with ⟨-, rv⟩ | ⟨rv, -⟩
    · exact rv
    · exact absurd y (by rw [rv]; decide)
  · obtain ⟨-, e, H, a', u1, u2, u3, u4, u5, u6, u7, u8, u9, u10⟩ := r7.resolve_left (fun u => y u.1)
    rw [r1.1.2.1.2.2.2.1]
    refine ⟨r1.1.2.1.1, r1.1.1.2.2.2.2.1.1, (s_tx_add (i32s (by omega) (by omega)) (i32s (by omega) (by omega)) r1 u5 (by omega) (by omega)).mono (fun v M24 kk => ?_)⟩
    obtain ⟨v1, v2, v3, v4, v5, v6, v7, v8⟩ := kk
    obtain ⟨L9, g1, g2, g3, g4, g5, g6, g7⟩ : rlD (W, E, pl, Cf, (a, ft), (zz, 6), ([50], 0)) (q + 1) p O P s a9 _ M17 := (rv.resolve_left (fun u => y u.1)).2
    have eL : e = L9 := by rw [u5] at g1; omega
    subst eL
    have key : irV W pl E Cf q p O P s a ft zz l2 1 M24 := by
      refine ⟨a9, by rw [v8 (q + 1) (by omega) (by omega) (by omega)]; exact ea9, Or.inr ⟨rfl, e, v5, by rw [v6, if_pos rfl], g2, ?_, ?_, ?_, g7⟩⟩
      · rw [show q + 6 = q + 1 + 5 by first | rfl | omega, v8 (q + 1 + 5) (by omega) (by omega) (by omega)]; exact g3
      · exact g4.same (by rw [v8 (q + 1) (by omega) (by omega) (by omega)]) (by rw [v8 (q + 1) (by omega) (by omega) (by omega)])
      · exact g5.cg (fun t t1 t2 => ⟨by rw [v6, if_neg (by omega)], by rw [v7, if_neg (by omega)]⟩)
    refine ⟨v1, v2, ⟨v3, (f13.trans r2).trans (v4.less (by omega)), ⟨by rw [v8 (q + 1) (by omega) (by omega) (by omega)]; exact b6, by rw [v8 q (by omega) (by omega) (by omega)]; exact bq, fun i => by rw [v8 (q + 21) (by omega) (by omega) (by omega)]; exact T21 i⟩, Or.inr ⟨rfl, e, H, a', ⟨fun pc h0 h1 => ?_, u2, u3, u4, by rw [v6, if_pos rfl], by omega⟩, v5, by rw [v8 (q + 1) (by omega) (by omega) (by omega)]; exact u6, u7, u8, u9, by rw [v8 (q + 1) (by omega) (by omega) (by omega), u10, gg _ _ (by omega) (by omega)]⟩⟩, fun i => by rw [v8 (q + 22) (by omega) (by omega) (by omega)]; exact T22 i, E, Cf, ecq, key⟩
    rw [v6, v7, if_neg (by omega), if_neg (by omega)]
    exact u1 pc h0 h1
end
end
