section
section
variable {G : mG} {d z q w T A B D N C n p O P K Ab Be Cm V F c s s' L L' cnt Bn a d0 V1 F1 nw k b b' : Nat} {M0 M M' M1 M2 Mc : mM} {ns ns' ns1 : Nat → Int} {sf ef sf' ef' : Nat → Nat} {H : Nat → Nat} {S R : Nat → Prop} {W pl nq E : Nat → Int} {Cf : Nat → Int × Int} {sm : Nat → Nat → Prop} {nms : List nm9} {ft : Int × Int} {zz zr : List Int}
theorem x_TR_readVar (h : TX M z q w T A B D N C n p O P K Ab Be Cm V F ns sf ef c cnt L) (ha : mI M (q + 1) 2 = a) (han : a < n) (hs : mI M p 2 = L) (hsa : L ≤ a) (hd : mI M (q + 1) 5 = 0) (wt : WTq M T A B D n W pl nq sm) (hF : FT M (q + 1) ft) (hW : W a = 4) (hR : Rc W [50] 0 [50] a) : Ci G y_TR_readVar (d + 6) [vr q] M (fun x M' => vaQ M z q w T A B D N C n p O P K Ab Be Cm V F ns sf ef c cnt L x M' ∧ vaV W pl nq sm M q p O P n c V a nms ft x M') := by
  have ap := h.1.apart
  have qp := h.1.2.2.2.2.2.1.2.1
  have ok := h.1.1.1
  have rc1 : Rc W [50] 0 [1, 33, 53, 54, 34, 50] (a + 1) := by
    refine hR.trans (Rc.one (mst_n (by decide) (by decide) (ys := [1, 33, 53, 54, 34, 50]) (t := 1) ?_ (Or.inl (by decide))))
    rw [ex_50]
    unfold ex50
    rw [if_neg (by omega), if_neg (by omega), if_pos hW]
  have hN : n ≤ 16384 := by have := h.1.1.2.2.2.1.2.2.1; have := h.1.1.2.2.2.1.1.2.2.2.2.2.2.1; omega
  obtain ⟨⟨np0, np1, -, -⟩, ⟨nO0, nO1, -, -, -⟩, nP0, nP1, -, -, -⟩ := h.1.ne
  obtain ⟨q01, q10, q210, q211, -, -, q220, q221, -⟩ := q_ne q
  obtain ⟨t0, t1, t2, t3, t4, t5⟩ := h.1.2.1
  refine k_TR_readVar ok ?_
  rw [t1]
  refine ⟨t0, h.1.1.2.1.1, fun M3 e3 => ?_⟩
  obtain ⟨h3, x3, g3⟩ := tx_ui h (i32s (by omega) (by omega)) e3 (Or.inr (Or.inr (Or.inr (Or.inl ⟨rfl, Or.inr (Or.inr rfl)⟩))))
  have p3 : mI M3 p 2 = L := by rw [g3, if_neg (by omega)]; exact hs
  rw [h3.1.2.1.2.2.2.1, p3]
  refine ⟨h3.1.1.2.2.2.2.1.1, fun M6 e6 => ?_⟩
  obtain ⟨h6, x6, g6⟩ := tx_ui h3 ⟨by omega, by omega⟩ e6 (Or.inl rfl)
  rw [h6.1.2.1.2.2.2.1]
  refine ⟨h6.1.1.2.2.2.2.1.1, fun v10 e10 => ?_⟩
  have b10 : v10 = 0 ∨ v10 = 1 := by rw [e10]; split <;> omega
  have f6 := h6.2.1.1.1
  refine (x_TR_readName (a := a) (nms := nms) (i32s (by omega) (by omega)) h6 (by rw [g6, if_neg (by omega), g3, if_neg (by omega)]; exact ha) han ((wt.fi h.1 x3.1).fi h3.1 x6.1) (hF.same (by rw [g6, if_neg (by omega), g3, if_neg (by omega)]) (by rw [g6, if_neg (by omega), g3, if_neg (by omega)])) rc1).mono (fun x16 M15 k => ?_)
  obtain ⟨⟨h15, x15, n15, y15, k15⟩, a9, ea9, rv⟩ := k
  have wt15 : WTq M15 T A B D n W pl nq sm := ((wt.fi h.1 x3.1).fi h3.1 x6.1).fi h6.1 x15.1
  have ev10 : (if v10 = 0 then ((0 : Int), (0 : Int)) else (5, pl a)) = if V < 12 then (0, 0) else (5, pl a) := by
    rw [e10, f6]
    by_cases u : V < 12
    · rw [if_pos u, if_pos (by omega)]
    · rw [if_neg u, if_neg (by omega)]
  rw [ev10] at rv
  have i16 : i32 x16 := by rcases k15 with u | u <;> rw [u.1] <;> exact i32s (by omega) (by omega)
  refine ⟨i16, h15.1.1.1, fun y => ?_, fun y => ?_⟩
  · obtain ⟨-, u⟩ := k15.resolve_right (fun u => by have := u.1; omega)
    refine ⟨⟨(x3.1.trans x6.1).trans x15.1, Or.inl ⟨rfl, h15, u⟩⟩, a9, ea9, Or.inl ⟨rfl, ?_⟩⟩
    rcases rv with ⟨-, rv⟩ | ⟨rv, -⟩
    · exact rv
    · rw [y] at rv; exact absurd rv (by decide)
  obtain ⟨-, a15, a2n, q15, A15⟩ := k15.resolve_left (fun u => y u.1)
  clear k15
  obtain ⟨-, ea2, w1, rc2, f2, F15, kn⟩ := rv.resolve_left (fun u => y u.1)
  clear rv
  have kn : CT M (q + 1) p nms → nms.length = c → knf sm pl nms (a + 1) f2 := fun ct hl => kn ((ct.tx x3.2).tx x6.2) hl
  generalize ef5 : fst9 (fst9 ft (if V < 12 then (0, 0) else (5, pl a))) f2 = ft2 at F15
  rw [h15.1.2.1.2.1]
  refine ⟨h15.1.2.1.1, h15.1.1.2.1.1, (x_tx_accept (x := 34) (i32s (by omega) (by omega)) (by omega) h15 a15 a2n).mono (fun x23 M22 k => ?_)⟩
  obtain ⟨i23, o22, -, h22, x22, k22, r22, b22, m22⟩ := k
  refine ⟨i23, o22, fun y => ?_, fun y => ?_⟩
  · have e := (k22.resolve_left (fun u => by have := u.1; omega)).2
    rw [e]
    exact ⟨⟨(x3.1.trans x6.1).trans x15.1, Or.inl ⟨rfl, h15, _, a15, a2n⟩⟩, a + 2, a15, Or.inl ⟨rfl, rf_t rc2 (fun u => m22 y ((wt15.is a2n (by decide) (by decide)).mpr u)) (by decide)⟩⟩
  obtain ⟨-, eA, a22, a3n⟩ := k22.resolve_right (fun u => y u.1)
  clear k22
  have w33 : W (a + 2) = 33 := (wt15.is a2n (by decide) (by decide)).mp eA
  have rc3 := rc_t rc2 w33 (by decide)
  have wt22 : WTq M22 T A B D n W pl nq sm := wt15.fi h15.1 x22.1
  rw [h22.1.2.1.2.1]
  refine ⟨h22.1.2.1.1, h22.1.1.2.1.1, (x_tx_accept (x := 6) (i32s (by omega) (by omega)) (by omega) h22 a22 (by omega)).mono (fun x30 M29 k => ?_)⟩
  obtain ⟨i30, o29, hx30, h29, x29, k29, r29, b29, m29⟩ := k
  refine ⟨i30, o29, h29.1.2.1.1, hx30, fun M34 e34 => ?_⟩
  obtain ⟨h34, x34, g34⟩ := tx_ui h29 i30 e34 (Or.inl rfl)
  have gg : ∀ b, b ≠ q → mI M34 b = mI M29 b := fun b hb => by
    funext i
    rw [g34, if_neg (by omega)]
  have q34 : ∀ i, i ≠ 8 → mI M34 q i = mI M15 q i := fun i hi => by rw [g34, if_neg (fun u => hi u.2), b29 q (by omega), b22 q (by omega)]
  have r34 : ∀ i, i ≠ 2 → mI M34 (q + 1) i = mI M15 (q + 1) i := fun i hi => by rw [gg _ (by omega), r29 i hi, r22 i hi]
  have c34 : mI M34 (q + 1) 6 ≠ 0 := by rw [r34 6 (by decide), n15.1 6 (by decide) (by decide) (by decide), g6, if_neg (by omega), g3, if_pos ⟨rfl, rfl⟩]; omega
  have d34 : mI M34 (q + 1) 5 = 0 := by rw [r34 5 (by decide), n15.1 5 (by decide) (by decide) (by decide), g6, if_neg (by omega), g3, if_neg (by omega)]; exact hd
  have p34 : mI M34 p 2 = ((L : Nat) : Int) := by rw [gg p (by first | (have h1 := qp; omega) | omega), b29 p (by first | (have h1 := qp; omega) | omega), b22 p (by first | (have h1 := qp; omega) | omega), n15.2.2 p (by first | (have h1 := qp; omega) | omega) (by first | (have h1 := qp; omega) | omega), g6, if_neg (by omega)]; exact p3
  have hn : mI M34 q 3 = ((a + 1 : Nat) : Int) ∧ a + 1 < n ∧ mI M34 A (a + 1) = 2 ∧ mI M34 q 4 = ((L : Nat) : Int) ∧ (mI M34 q 8 = 0 ∨ mI M34 q 8 = 1) ∧ (12 ≤ V → mI M34 (q + 1) 3 ≠ 0) := by
    refine ⟨by rw [q34 3 (by decide)]; exact q15, by omega, ?_, by rw [q34 4 (by decide), n15.2.1 4 (by decide), g6, if_pos ⟨rfl, rfl⟩], by rw [g34, if_pos ⟨rfl, rfl⟩]; exact hx30, fun y => ?_⟩
    · rw [(h29.1.words x34.1).1, (h22.1.words x29.1).1, (h15.1.words x22.1).1]
      exact A15
    · rw [r34 3 (by decide)]
      exact y15 (by rw [e10, if_neg (by omega)]; omega)
  have f34 : FI (txS q p O P) M M34 := ((((x3.1.trans x6.1).trans x15.1).trans x22.1).trans x29.1).trans x34.1
  have wt34 : WTq M34 T A B D n W pl nq sm := (wt22.fi h22.1 x29.1).fi h29.1 x34.1
  have F34 : FT M34 (q + 1) ft2 := F15.same (r34 3 (by decide)) (r34 4 (by decide))
  have c34' : mI M34 (q + 1) 6 = 1 := by rw [r34 6 (by decide), n15.1 6 (by decide) (by decide) (by decide), g6, if_neg (by omega), g3, if_pos ⟨rfl, rfl⟩]
  have toM : ∀ {E : Nat → Int} {Cf : Nat → Int × Int}, ECq M34 (q + 1) p n W nq sm nms c 1 E Cf → ECq M (q + 1) p n W nq sm nms c 1 E Cf := fun k => (((((k.to x34.2).to x29.2).to x22.2).to x15.2).to x6.2).to x3.2
  have tL34 : txF M q p O P L M34 := ((((x3.trans x6).trans x15).trans x22).trans x29).trans x34
  have t34 : txF M q p O P 0 M34 := tL34.less (Nat.zero_le _)
  have q83 : mI M34 q 8 = x30 := by rw [g34, if_pos ⟨rfl, rfl⟩]
  refine ⟨fun y8 => ?_, fun y8 => ?_⟩
  · -- numbers
    have e0 : x30 = 0 := by rw [g34, if_pos ⟨rfl, rfl⟩] at y8; exact y8
    have e29 := (k29.resolve_left (fun u => by have := u.1; omega)).2
    have a34 : mI M34 (q + 1) 2 = ((a + 2 + 1 : Nat) : Int) := by rw [gg _ (by omega), e29]; exact a22
    have n5 : W (a + 3) ≠ 5 := fun u => m29 e0 ((wt22.is (show a + 2 + 1 ≤ n by omega) (by decide) (by decide)).mpr u)
    have rc4 : Rc W [50] 0 [61, 16, 61, 54, 34, 50] (a + 3) := rc3.trans (Rc.one (mst_n (by decide) (by decide) (ys := [61, 16, 61]) (t := 0) (by show ex53 (W (a + 3)) = _; unfold ex53; rw [if_neg n5]) (Or.inl (by decide))))
    refine (x_TR_readItemRule (k := 0) (d0 := 0) (nms := nms) (ft := ft2) (zz := [16, 61, 54, 34, 50]) (by omega) (i32s (by omega) (by omega)) h34 a34 (by omega) p34 (Nat.le_refl _) (by omega) d34 (by omega) (h34.2.1.2.2.1.nkc c34) wt34 F34 (by rw [d34]; rfl) (hz_t (by decide)) rc4).mono (fun x39 M38 k => ?_)
    obtain ⟨⟨h38, x38, ⟨c38, q38, t38⟩, k38⟩, t22A, E0, C0, ec0, a98, ea98, iv0⟩ := k
    rw [c34'] at ec0
    have ec0 := toM ec0
    have wt38 : WTq M38 T A B D n W pl nq sm := wt34.fi h34.1 x38.1
    have i39 : i32 x39 := by rcases k38 with u | u <;> rw [u.1] <;> exact i32s (by omega) (by omega)
    refine ⟨i39, h38.1.1.1, fun y => ?_, fun y => ?_⟩
    · obtain ⟨-, u⟩ := k38.resolve_right (fun u => by have := u.1; omega)
      refine ⟨⟨f34.trans x38.1, Or.inl ⟨rfl, h38, u⟩⟩, a98, ea98, Or.inl ⟨rfl, ?_⟩⟩
      rcases iv0 with ⟨-, iv⟩ | ⟨iv, -⟩
      · exact iv
      · rw [y] at iv; exact absurd iv (by decide)
    obtain ⟨-, eA, HA, aA, cdA, p38, a38, aa38, an38, ea38, d38⟩ := k38.resolve_left (fun u => y u.1)
    clear k38
    obtain ⟨-, L0, v1, v2, v3, v4, v5, v6, v7⟩ := iv0.resolve_left (fun u => y u.1)
    clear iv0
    have eaA : aA = a98 := by rw [a38] at ea98; omega
    subst eaA
    have eLA : eA = L0 := by rw [p38] at v1; omega
    subst eLA
    have F38 : FT M38 (q + 1) (fst9 ft2 (vrf W E0 pl 0 (a + 3) aA)) := irv_ft (x := 0) v5 (by simp)
    have seA : L ≤ eA := cdA.2.2.2.2.2
    rw [h38.1.2.1.2.1]
    refine ⟨h38.1.2.1.1, h38.1.1.2.1.1, (x_tx_accept (x := 17) (i32s (by omega) (by omega)) (by omega) h38 a38 an38).mono (fun x46 M45 k => ?_)⟩
    obtain ⟨i46, o45, -, h45, x45, k45, r45, b45, m45⟩ := k
    refine ⟨i46, o45, fun y => ?_, fun y => ?_⟩
    · have e := (k45.resolve_left (fun u => by have := u.1; omega)).2
      rw [e]
      exact ⟨⟨f34.trans x38.1, Or.inl ⟨rfl, h38, _, a38, an38⟩⟩, aA, a38, Or.inl ⟨rfl, rf_t v7 (fun u => m45 y ((wt38.is an38 (by decide) (by decide)).mpr u)) (by decide)⟩⟩
    obtain ⟨-, eA16, a45, an45⟩ := k45.resolve_right (fun u => y u.1)
    clear k45
    have w16 : W aA = 16 := (wt38.is an38 (by decide) (by decide)).mp eA16
    have rc5 := rc_t v7 w16 (by decide)
    have wt45 : WTq M45 T A B D n W pl nq sm := wt38.fi h38.1 x45.1
    have F45 : FT M45 (q + 1) (fst9 ft2 (vrf W E0 pl 0 (a + 3) aA)) := F38.same (r45 3 (by decide)) (r45 4 (by decide))
    have c45' : mI M45 (q + 1) 6 = 1 := by rw [r45 6 (by decide), c38]; exact c34'
    have c45 : mI M45 (q + 1) 6 ≠ 0 := by rw [r45 6 (by decide), c38]; exact c34
    have d45 : mI M45 (q + 1) 5 = 0 := by rw [r45 5 (by decide), d38]; exact d34
    have p45 : mI M45 p 2 = ((eA + 1 : Nat) : Int) := by rw [b45 p np1]; exact p38
    refine ⟨h45.1.2.1.1, (x_TR_readItemRule (k := 1) (d0 := 0) (nms := nms) (ft := fst9 ft2 (vrf W E0 pl 0 (a + 3) aA)) (zz := [54, 34, 50]) (by omega) (i32s (by omega) (by omega)) h45 a45 (by omega) p45 (by omega) (by omega) d45 (by omega) (h45.2.1.2.2.1.nkc c45) wt45 F45 (by rw [d45]; rfl) hz54 rc5).mono (fun x52 M51 k => ?_)⟩
    obtain ⟨⟨h51, x51, ⟨c51, q51, t51⟩, k51⟩, t22B, E1, C1, ec1, a99, ea99, iv1⟩ := k
    rw [c45'] at ec1
    have ec1 := toM ((ec1.to x45.2).to x38.2)
    have wt51 : WTq M51 T A B D n W pl nq sm := wt45.fi h45.1 x51.1
    have i52 : i32 x52 := by rcases k51 with u | u <;> rw [u.1] <;> exact i32s (by omega) (by omega)
    refine ⟨i52, h51.1.1.1, fun y => ?_, fun y => ?_⟩
    · obtain ⟨-, u⟩ := k51.resolve_right (fun u => by have := u.1; omega)
      refine ⟨⟨((f34.trans x38.1).trans x45.1).trans x51.1, Or.inl ⟨rfl, h51, u⟩⟩, a99, ea99, Or.inl ⟨rfl, ?_⟩⟩
      rcases iv1 with ⟨-, iv⟩ | ⟨iv, -⟩
      · exact iv
      · rw [y] at iv; exact absurd iv (by decide)
    obtain ⟨-, eB, HB, aB, cdB, p51, a51, aa51, an51, ea51, d51⟩ := k51.resolve_left (fun u => y u.1)
    clear k51
    obtain ⟨-, L1, z1, z2, z3, z4, z5, z6, z7⟩ := iv1.resolve_left (fun u => y u.1)
    clear iv1
    have eaB : aB = a99 := by rw [a51] at ea99; omega
    subst eaB
    have eLB : eB = L1 := by rw [p51] at z1; omega
    subst eLB
    have F51 : FT M51 (q + 1) (fst9 (fst9 ft2 (vrf W E0 pl 0 (a + 3) aA)) (vrf W E1 pl 0 (aA + 1) aB)) := irv_ft (x := 0) z5 (by simp)
    rw [fst9_as] at F51
    have rq1 : rvQz W pl C1 q O P 1 (aA + 1) aB (eB + 1) M51 := ⟨eA + 1, eB, by rw [t51, if_pos rfl], z2, z6, Nat.lt_succ_self _, by rw [t22B, if_pos rfl]⟩
    have rq0 : rvQz W pl C0 q O P 0 (a + 3) aA (eB + 1) M51 := ⟨L, eA, by rw [t51, if_neg (by decide), b45 _ q211, t38, if_pos rfl], by rw [(x51.2.2.2.2.2.2 eA (Nat.lt_succ_self _)).1, b45 O nO1]; exact v2, v6.cg (fun t _ t2 => ⟨by rw [(x51.2.2.2.2.2.2 t (Nat.lt_succ_of_lt t2)).1, b45 O nO1], by rw [(x51.2.2.2.2.2.2 t (Nat.lt_succ_of_lt t2)).2, b45 P nP1]⟩), by have := cdB.2.2.2.2.2; omega, by rw [t22B, if_neg (by decide), b45 _ q221, t22A, if_pos rfl]⟩
    have seB : eA + 1 ≤ eB := cdB.2.2.2.2.2
    have q51' : mI M51 q = mI M34 q := by rw [q51, b45 q q01, q38]
    rw [h51.1.2.1.2.1]
    refine ⟨h51.1.2.1.1, h51.1.1.2.1.1, (x_rv10 (s := eB + 1) (nms := nms) (((f34.trans x38.1).trans x45.1).trans x51.1) h51 p51 (by omega) (by omega) a51 an51 (by rw [d51]; exact d45) (by rw [c51]; exact c45') ⟨by rw [q51']; exact hn.1, hn.2.1, ?_, by rw [q51']; exact hn.2.2.2.1, by rw [q51']; exact hn.2.2.2.2.1, fun u => x51.2.2.1 (x45.2.2.1 (x38.2.2.1 (hn.2.2.2.2.2 u)))⟩ (fun _ => ⟨⟨L, eA, HA, ?_, ?_, Nat.le_refl _, by omega⟩, ⟨eA + 1, eB, HB, by rw [t51, if_pos rfl], cdB, by omega, by omega⟩⟩) wt51 F51 z7).mono (fun x59 M58 u => ⟨u.1, u.2.1, u.2.2.1, u.2.2.2.1, fun M63 e63 => ?_⟩)⟩
    rotate_left 3
    · have up : ∀ {x : Int} {M9 : mM}, inV W pl nq sm q p O P n c aB (eB + 1) nms (fst9 ft2 (fst9 (vrf W E0 pl 0 (a + 3) aA) (vrf W E1 pl 0 (aA + 1) aB))) M51 x M9 → vaV W pl nq sm M q p O P n c V a nms ft x M9 := fun {x M9} hv => by
        obtain ⟨a', g1, hv⟩ := hv
        refine ⟨a', g1, ?_⟩
        rcases hv with hv | ⟨hx, g2, g3, g4, g5, e, b9, I, g6, g7, g8, g9, ⟨g10, g12⟩, g11⟩
        · exact Or.inl hv
        · have q8 : mI M9 q 8 = 0 := by rw [g3 8 (by decide), q51']; exact y8
          refine Or.inr ⟨hx, ⟨w1, w33⟩, by rw [g3 3 (by decide), q51']; exact hn.1, g2, e, aB, b9, f2, _, I, g6, g7, ⟨g9, (((t34.trans (x38.less (Nat.zero_le _))).trans (x45.less (Nat.zero_le _))).trans (x51.less (Nat.zero_le _))).trans g12, fun i hi => by
            have hi : i < L := by rw [hs] at hi; omega
            rw [(g5 i (by omega)).1, (g5 i (by omega)).2, (x51.2.2.2.2.2.2 i (by omega)).1, (x51.2.2.2.2.2.2 i (by omega)).2, b45 O nO1, b45 P nP1, (x38.2.2.2.2.2.2 i hi).1, (x38.2.2.2.2.2.2 i hi).2]
            exact tL34.2.2.2.2.2.2 i hi⟩, kn, by rw [ef5]; exact g8, Or.inr ⟨n5, q8, aA, E0, E1, C0, C1, v3, w16, z3, ec0, ec1, rfl, rq0.cg (g4 0 (by decide)).1 (g4 0 (by decide)).2 g5 g10, rq1.cg (g4 1 (by decide)).1 (g4 1 (by decide)).2 g5 g10⟩, ?_⟩
          rcases g11 with g11 | ⟨j1, j2, E2, C2, j3, j4, j5, j6⟩
          · exact Or.inl g11
          · refine Or.inr ⟨j1, j2, E2, C2, j3, toM (((j4.to x51.2).to x45.2).to x38.2), ?_, j6⟩
            rw [j5, q51', q8]
            show vrf W E2 pl (mI M34 q 8) (aB + 1) e = _
            rw [y8]
      obtain ⟨s1, s2⟩ := u.2.2.2.2 M63 e63
      refine ⟨fun yy => ?_, fun yy v73 e73 => ?_⟩
      · obtain ⟨r1, r2⟩ := s1 yy
        exact ⟨r1, r2.mono (fun x69 M68 v => ⟨v.1, v.2.1, v.2.2.1, v.2.2.2.1, up v.2.2.2.2⟩)⟩
      · refine (s2 yy v73 e73).mono (fun x78 M77 v => ⟨v.1, v.2.1, fun y9 => ?_, fun y9 => ?_⟩)
        · obtain ⟨r1, r2⟩ := v.2.2.1 y9
          exact ⟨r1, up r2⟩
        · obtain ⟨r1, r2, r3⟩ := v.2.2.2 y9
          exact ⟨r1, r2, r3.mono (fun x84 M83 t => ⟨t.1, t.2.1, t.2.2.1, t.2.2.2.1, up t.2.2.2.2⟩)⟩
    · rw [(h45.1.words x51.1).1, (h38.1.words x45.1).1, (h34.1.words x38.1).1]
      exact hn.2.2.1
    · rw [t51, if_neg (by decide), b45 _ q211, t38, if_pos rfl]
    · exact cdA.cg (fun i hi => by rw [(x51.2.2.2.2.2.2 i (by omega)).1, b45 O nO1]) (fun i hi => by rw [(x51.2.2.2.2.2.2 i (by omega)).2, b45 P nP1])
  · have e0 : x30 ≠ 0 := fun u => y8 (by rw [g34, if_pos ⟨rfl, rfl⟩]; exact u)
    obtain ⟨x301, eA5, a29, an29⟩ := k29.resolve_right (fun u => e0 u.1)
    have w5 : W (a + 3) = 5 := (wt22.is (show a + 2 + 1 ≤ n by omega) (by decide) (by decide)).mp eA5
    have rc4 : Rc W [50] 0 [54, 34, 50] (a + 4) := rc3.trans (Rc.one (mst_n (by decide) (by decide) (ys := []) (t := 1) (by show ex53 (W (a + 3)) = _; unfold ex53; rw [if_pos w5]) (Or.inl (by decide))))
    have a34 : mI M34 (q + 1) 2 = ((a + 2 + 1 + 1 : Nat) : Int) := by rw [gg _ (by omega)]; exact a29
    rw [h34.1.2.1.2.1]
    refine ⟨h34.1.1.2.1.1, (x_rv10 (s := L) (nms := nms) f34 h34 p34 (Nat.le_refl _) (by omega) a34 (by omega) d34 c34' hn (fun u => absurd u y8) wt34 F34 rc4).mono (fun x59 M58 u => ⟨u.1, u.2.1, u.2.2.1, u.2.2.2.1, fun M63 e63 => ?_⟩)⟩
    have up : ∀ {x : Int} {M9 : mM}, inV W pl nq sm q p O P n c (a + 2 + 1 + 1) L nms ft2 M34 x M9 → vaV W pl nq sm M q p O P n c V a nms ft x M9 := fun {x M9} hv => by
      obtain ⟨a', g1, hv⟩ := hv
      refine ⟨a', g1, ?_⟩
      rcases hv with hv | ⟨hx, g2, g3, g4, g5, e, b9, I, g6, g7, g8, g9, ⟨g10, g12⟩, g11⟩
      · exact Or.inl hv
      · have q8 : mI M9 q 8 = 1 := by rw [g3 8 (by decide), q83]; exact x301
        refine Or.inr ⟨hx, ⟨w1, w33⟩, by rw [g3 3 (by decide)]; exact hn.1, g2, e, a + 4, b9, f2, (0, 0), I, g6, g7, ⟨g9, t34.trans g12, fun i hi => by
          have hi : i < L := by rw [hs] at hi; omega
          rw [(g5 i hi).1, (g5 i hi).2]
          exact tL34.2.2.2.2.2.2 i hi⟩, kn, ?_, Or.inl ⟨w5, rfl, q8, rfl⟩, ?_⟩
        · rw [ef5, fst9_as]
          exact g8
        · rcases g11 with g11 | ⟨j1, j2, E2, C2, j3, j4, j5, j6⟩
          · exact Or.inl g11
          · refine Or.inr ⟨j1, j2, E2, C2, j3, toM j4, ?_, j6⟩
            rw [j5, q83, q8, x301]
    obtain ⟨s1, s2⟩ := u.2.2.2.2 M63 e63
    refine ⟨fun yy => ?_, fun yy v73 e73 => ?_⟩
    · obtain ⟨r1, r2⟩ := s1 yy
      exact ⟨r1, r2.mono (fun x69 M68 v => ⟨v.1, v.2.1, v.2.2.1, v.2.2.2.1, up v.2.2.2.2⟩)⟩
    · refine (s2 yy v73 e73).mono (fun x78 M77 v => ⟨v.1, v.2.1, fun y9 => ?_, fun y9 => ?_⟩)
      · obtain ⟨r1, r2⟩ := v.2.2.1 y9
        exact ⟨r1, up r2⟩
      · obtain ⟨r1, r2, r3⟩ := v.2.2.2 y9
        exact ⟨r1, r2, r3.mono (fun x84 M83 t => ⟨t.1, t.2.1, t.2.2.1, t.2.2.2.1, up t.2.2.2.2⟩)⟩
end
end
