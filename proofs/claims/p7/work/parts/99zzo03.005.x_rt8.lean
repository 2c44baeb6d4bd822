section
section
variable {G : mG} {d z q w T A B D N C n p O P K Ab Be Cm V F c s L L' cnt Bn a d0 V1 F1 nw : Nat} {M0 M M' M1 M2 Mc : mM} {ns ns' ns1 : Nat → Int} {sf ef sf' ef' : Nat → Nat} {H : Nat → Nat} {S R : Nat → Prop} {W pl nq : Nat → Int} {sm : Nat → Nat → Prop} {nms : List nm9} {ft : Int × Int} {zz zr : List Int}
theorem x_rt8 (f0 : FI (txS q p O P) M0 M) (h : TX M z q w T A B D N C n p O P K Ab Be Cm V F ns sf ef c cnt L) (ha : mI M (q + 1) 2 = a) (han : a < n) (hs : mI M p 2 = L) (hsa : L ≤ a) (hd : mI M (q + 1) 5 = 0) (e8 : M1 = mUI M (q + 1) 2 ((a : Int) + 1)) (e11 : M2 = mUI M1 (q + 1) 6 0) (hec : ∀ {E : Nat → Int} {Cf : Nat → Int × Int}, ECq M2 (q + 1) p n W nq sm nms c 0 E Cf → ECq Mc (q + 1) p n W nq sm nms c 0 E Cf) (hkm : tgK q p Mc M2) (hk2 : txF Mc q p O P L M2) (wt : WTq M T A B D n W pl nq sm) (hF : FT M (q + 1) ft) (hW : W a = 11) (hR : Rc W [50] 0 [50] a) : mOk M2 ∧ mK M1 (mR M1 q 0) = 4 ∧ mR M1 q 0 = q + 1 ∧ Ci G y_TR_readItemRule (d + 5) [vr q, vi 0, vi 2] M2 (fun x14 M13 => i32 x14 ∧ mOk M13 ∧ (((x14 = 0) → (tgQ M0 z q w T A B D N C n p O P K Ab Be Cm V F ns sf ef c cnt L 0 M13 ∧ tgV W pl nq sm Mc q p O P n c L a nms ft 0 M13)) ∧ (¬ (x14 = 0) → (mK M13 q = 3 ∧ mK M13 (mR M13 q 5) = 30 ∧ ((0 : Int) ≤ 0 ∧ 0 < (mN M13 (mR M13 q 5) : Int)) ∧ mK M13 (mR M13 q 2) = 6 ∧ ∀ M22, M22 = mUI M13 (mR M13 q 2) 11 (mI M13 (mR M13 q 5) 0) → mK M22 (mR M22 q 0) = 4 ∧ Ci G y_RR_accept (d + 5) [vr (mR M22 q 0), vi 35] M22 (fun x26 M25 => i32 x26 ∧ mOk M25 ∧ ((x26 = 0 ∨ x26 = 1) ∧ tgQ M0 z q w T A B D N C n p O P K Ab Be Cm V F ns sf ef c cnt L x26 M25 ∧ tgV W pl nq sm Mc q p O P n c L a nms ft x26 M25)))))) := by
  have ap := h.1.apart
  have qp := h.1.2.2.2.2.2.1.2.1
  have ok := h.1.1.1
  have rc1 : Rc W [50] 0 [61, 34, 50] (a + 1) := by
    refine hR.trans (Rc.one (mst_n (by decide) (by decide) (ys := [61, 34, 50]) (t := 1) ?_ (Or.inl (by decide))))
    rw [ex_50]
    unfold ex50
    rw [if_neg (by omega), if_neg (by omega), if_neg (by omega), if_neg (by omega), if_pos hW]
  have hN : n ≤ 16384 := by have := h.1.1.2.2.2.1.2.2.1; have := h.1.1.2.2.2.1.1.2.2.2.2.2.2.1; omega
  obtain ⟨h1, x1, g1⟩ := tx_ui h ⟨by omega, by omega⟩ e8 (Or.inr (Or.inr (Or.inr (Or.inl ⟨rfl, Or.inl rfl⟩))))
  obtain ⟨h2, x2, g2⟩ := tx_ui h1 (i32s (by omega) (by omega)) e11 (Or.inr (Or.inr (Or.inr (Or.inl ⟨rfl, Or.inr (Or.inr rfl)⟩))))
  have gb : ∀ b i, b ≠ q + 1 → mI M2 b i = mI M b i := fun b i hb => by rw [g2, if_neg (by omega), g1, if_neg (by omega)]
  have a2 : mI M2 (q + 1) 2 = ((a + 1 : Nat) : Int) := by rw [g2, if_neg (by omega), g1, if_pos ⟨rfl, rfl⟩]; omega
  have d2 : mI M2 (q + 1) 5 = ((0 : Nat) : Int) := by rw [g2, if_neg (by omega), g1, if_neg (by omega)]; exact hd
  refine ⟨h2.1.1.1, by rw [h1.1.2.1.2.1]; exact h1.1.1.2.1.1, h1.1.2.1.2.1, (x_TR_readItemRule (k := 0) (s := L) (d0 := 0) (nms := nms) (ft := ft) (zz := [34, 50]) (by omega) (i32s (by omega) (by omega)) h2 a2 (by omega) (by rw [gb p 2 (by omega)]; exact hs) (Nat.le_refl _) (by omega) d2 (by omega) h2.2.1.2.2.1.nk ((wt.fi h.1 x1.1).fi h1.1 x2.1) (hF.same (by rw [g2, if_neg (by omega), g1, if_neg (by omega)]) (by rw [g2, if_neg (by omega), g1, if_neg (by omega)])) (by rw [d2]; rfl) hz34 rc1).mono (fun x14 M13 k => ?_)⟩
  obtain ⟨⟨h13, x13, ⟨c13, q13, t13⟩, k13⟩, -, E, Cf, ec, a9, ea9, iv⟩ := k
  have e26 : mI M2 (q + 1) 6 = 0 := by rw [g2, if_pos ⟨rfl, rfl⟩]
  rw [e26] at ec
  have wt13 : WTq M13 T A B D n W pl nq sm := ((wt.fi h.1 x1.1).fi h1.1 x2.1).fi h2.1 x13.1
  have i14 : i32 x14 := by rcases k13 with u | u <;> rw [u.1] <;> exact i32s (by omega) (by omega)
  refine ⟨i14, h13.1.1.1, fun y => ?_, fun y => ?_⟩
  · obtain ⟨-, u⟩ := k13.resolve_right (fun u => by have := u.1; omega)
    refine ⟨⟨((f0.trans x1.1).trans x2.1).trans x13.1, Or.inl ⟨rfl, L, h13, u⟩⟩, a9, ea9, Or.inl ⟨rfl, ?_⟩⟩
    rcases iv with ⟨-, iv⟩ | ⟨iv, -⟩
    · exact iv
    · rw [y] at iv; exact absurd iv (by decide)
  obtain ⟨-, e, H, a', cd, p13, a13, aa, an, ea, d13⟩ := k13.resolve_left (fun u => y u.1)
  clear k13
  obtain ⟨-, L9, v1, v2, v3, v4, v5, v6, v7⟩ := iv.resolve_left (fun u => y u.1)
  clear iv
  have ea9' : a' = a9 := by rw [a13] at ea9; omega
  subst ea9'
  have v5 : FT M13 (q + 1) (fst9 (fst9 ft (fl W E pl 0 (a + 1) a')) (kft (kdq W E 0 (a + 1) a' = 1) (pl (a + 1)))) := by
    rw [show ((2 : Int) = 0 ∨ kdq W E 0 (a + 1) a' = if (2 : Int) = 2 then 1 else 0) = (kdq W E 0 (a + 1) a' = 1) from propext ⟨fun u => u.resolve_left (by decide), fun u => Or.inr u⟩] at v5
    exact v5
  obtain ⟨⟨np0, np1, np21, -⟩, ⟨nO0, nO1, -, -, nOp⟩, nP0, nP1, -, -, nPp⟩ := h13.1.ne
  have pn : ∀ i, 3 ≤ i → p + i ≠ p := fun i hi => by omega
  have qn : ∀ i, i ≤ 10 → q + i ≠ p := fun i hi => by omega
  obtain ⟨t0, t1, t2, t3, t4, t5⟩ := h13.1.2.1
  obtain ⟨s1, s2, s3, s4⟩ := h13.1.2.2.1
  rw [t3, t4, s3, t13, if_pos rfl]
  refine ⟨t0, s1, ⟨by omega, by omega⟩, h13.1.1.2.2.2.2.1.1, fun M22 e22 => ?_⟩
  have f22 : FI (txS q p O P) M13 M22 := by rw [e22]; exact FI.ui (Or.inr (Or.inr (Or.inr (Or.inl rfl))))
  have g22 : ∀ b i, mI M22 b i = if b = p ∧ i = 11 then (L : Int) else mI M13 b i := fun b i => mI_ui b i e22
  have gg : ∀ b, b ≠ p → mI M22 b = mI M13 b := fun b hb => by
    funext i
    rw [g22, if_neg (fun u => hb u.1)]
  have o22 : mOk M22 := by rw [e22]; exact mOk_UI h13.1.1.1 ⟨by omega, by omega⟩
  have hse : L ≤ e := cd.2.2.2.2.2
  have h22 : TX M22 z q w T A B D N C n p O P K Ab Be Cm V F ns sf ef c cnt (e + 1) := by
    refine ⟨h13.1.fi o22 f22, ?_, ?_⟩
    · obtain ⟨u1, u2, u3, u4⟩ := h13.2.1
      refine ⟨by rw [g22, if_neg (by omega)]; exact u1, by rw [g22, if_neg (by omega)]; exact u2, ?_, fun j => by rw [gg _ (by omega)]; exact u4 j⟩
      unfold TN at u3 ⊢
      rw [(h13.1.words f22).1, gg _ (by omega), gg _ (by omega), gg _ (by omega), gg _ (by omega), gg _ (by omega)]
      exact u3
    · obtain ⟨u1, u2⟩ := h13.2.2
      refine ⟨by rw [g22, if_neg (by omega)]; exact u1, fun y0 => ?_⟩
      rw [gg _ (qn 1 (by decide))] at y0
      obtain ⟨u, eu, gu⟩ := u2 y0
      obtain ⟨v1, v2, v3, v4, v5, v6, v7⟩ := gu.longer (L' := e + 1) (Nat.le_succ_of_le hse)
      have cg : ∀ {s h : Nat}, PC M13 O P V F ns ef (e + 1) s h → PC M22 O P V F ns ef (e + 1) s h := fun hc => hc.cg (fun i _ => by rw [gg O nOp]) (fun i _ => by rw [gg P nPp])
      refine ⟨u, by rw [gg _ (pn _ (by decide))]; exact eu, v1.cg (fun i _ => by rw [gg O nOp]) (fun i _ => by rw [gg P nPp]) (fun i _ => by rw [gg _ (pn _ (by decide))]) (fun i _ => by rw [gg _ (pn _ (by decide))]), Or.inr ⟨L, by rw [g22, if_pos ⟨rfl, rfl⟩], cg ⟨e, H, F, cd, Nat.lt_succ_self _, Nat.le_refl _, fun y hy h7 => ((gu.1 y hy).2 h7).2.2.1⟩⟩, fun j hj => ?_, by rw [gg _ (pn _ (by decide))]; exact v4, by rw [gg _ (pn _ (by decide))]; exact v5, by rw [gg _ (pn _ (by decide))]; exact v6, fun b hb => ?_⟩
      · obtain ⟨s, y1, y2⟩ := v3 j hj
        exact ⟨s, by rw [gg _ (pn _ (by decide))]; exact y1, cg y2⟩
      · obtain ⟨s1, s2, y1, y2, y3, y4⟩ := v7 b hb
        exact ⟨s1, s2, by rw [gg _ (pn _ (by decide))]; exact y1, cg y2, by rw [gg _ (pn _ (by decide))]; exact y3, cg y4⟩
  have a22 : mI M22 (q + 1) 2 = (a' : Int) := by rw [gg _ (by omega)]; exact a13
  rw [h22.1.2.1.2.1]
  refine ⟨h22.1.1.2.1.1, (x_tx_accept (x := 35) (i32s (by omega) (by omega)) (by omega) h22 a22 an).mono (fun x26 M25 k => ?_)⟩
  obtain ⟨i26, o25, hx26, h25, x25, k25, r25, b25, n25⟩ := k
  have wt22 : WTq M22 T A B D n W pl nq sm := wt13.fi h13.1 f22
  refine ⟨i26, o25, hx26, ?_⟩
  rcases k25 with ⟨e1, eA, a25, an25⟩ | ⟨e1, e2⟩
  · have w34 : W a' = 34 := (wt22.is (by omega) (by omega) (by omega)).mp eA
    have rc := rc_t v7 w34 (by decide)
    have key : tgV W pl nq sm Mc q p O P n c L a nms ft x26 M25 := by
      refine ⟨a' + 1, a25, Or.inr ⟨e1, by rw [b25 p (by first | (have h1 := qp; omega) | omega), g22, if_pos ⟨rfl, rfl⟩]; omega, a', E, Cf, rfl, v3, w34, rc, hec ec, v5.same (by rw [r25 3 (by decide), gg _ (by omega)]) (by rw [r25 4 (by decide), gg _ (by omega)]), ((hkm.trans (tgK.tx x13.2)).trans ⟨by rw [gg _ (by omega)], fun i _ i9 => gg _ (by omega), fun i _ i1 => by rw [g22, if_neg (fun u => i1 u.2)], gg _ (by omega), gg _ (by omega)⟩).trans (tgK.tx x25.2), ?_⟩⟩
      have xx := hk2.trans x13
      refine ⟨by rw [b25 p (by first | (have h1 := qp; omega) | omega), g22, if_pos ⟨rfl, rfl⟩], fun i i3 i15 => by rw [b25 _ (by omega), gg _ (by omega)]; exact xx.2.2.2.2.2.1 i i3 i15, L9, by rw [b25 p (by first | (have h1 := qp; omega) | omega), g22, if_neg (by omega)]; exact v1, by rw [b25 O (by first | (have h1 := ap.2.2.2.1; have h2 := ap.2.1; omega) | omega), gg O nOp]; exact v2, ?_, fun i hi => ?_⟩
      · exact v6.cg (fun t _ _ => ⟨by rw [b25 O (by first | (have h1 := ap.2.2.2.1; have h2 := ap.2.1; omega) | omega), gg O nOp], by rw [b25 P (by first | (have h1 := ap.2.2.2.2.1; have h2 := ap.2.2.1; omega) | omega), gg P nPp]⟩)
      · rw [b25 O (by first | (have h1 := ap.2.2.2.1; have h2 := ap.2.1; omega) | omega), gg O nOp, b25 P (by first | (have h1 := ap.2.2.2.2.1; have h2 := ap.2.2.1; omega) | omega), gg P nPp]
        exact xx.2.2.2.2.2.2 i hi
    refine ⟨?_, key⟩
    refine ⟨((((f0.trans x1.1).trans x2.1).trans x13.1).trans f22).trans x25.1, Or.inr ⟨e1, e + 1, a' + 1, h25, by rw [b25 p (by first | (have h1 := qp; omega) | omega), g22, if_neg (by omega)]; exact p13, a25, by omega, by omega, by rw [r25 5 (by decide), gg _ (by omega), d13, d2]; rfl⟩⟩
  · rw [e2]
    exact ⟨⟨(((f0.trans x1.1).trans x2.1).trans x13.1).trans f22, Or.inl ⟨e1, e + 1, h22, a', a22, an⟩⟩, a', a22, Or.inl ⟨e1, rf_t v7 (fun u => n25 e1 ((wt22.is (by omega) (by omega) (by omega)).mpr u)) (by decide)⟩⟩
end
end
