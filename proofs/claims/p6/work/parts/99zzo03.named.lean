section
/-! The class's reader of texts, exactly: consts and formulas. -/
section TXD
variable {G : mG} {d z q w T A B D N C n p O P K Ab Be Cm V F c s L L' cnt Bn a d0 V1 F1 nw : Nat} {M0 M M' M1 M2 : mM} {ns ns' ns1 : Nat → Int} {sf ef sf' ef' : Nat → Nat} {H : Nat → Nat} {S R : Nat → Prop} {W pl nq : Nat → Int} {sm : Nat → Nat → Prop} {nms : List nm9} {ft : Int × Int} {zz zr : List Int}
theorem FT.un {r : Nat} {y : Int × Int} (h : FT M r (fst9 y (0, 0))) : FT M r y := by
  by_cases c : y.1 = 0
  · rw [show fst9 y (0, 0) = (0, 0) from if_pos c] at h
    exact ⟨by rw [h.1, c], fun z => absurd c z⟩
  · rw [show fst9 y (0, 0) = y from if_neg c] at h
    exact h
theorem ECq.to {E : Nat → Int} {Cf : Nat → Int × Int} {co : Int} (h : ECq M' (q + 1) p n W nq sm nms c co E Cf) (f : txE M q p O P s M') : ECq M (q + 1) p n W nq sm nms c co E Cf := by
  obtain ⟨h1, h2⟩ := h
  refine ⟨h1, fun ct hl => ?_⟩
  have k := h2 (ct.tx f) hl
  obtain ⟨-, -, f4, -⟩ := f
  rw [f4 7 (by omega) (by omega), f4 8 (by omega) (by omega)] at k
  exact k
theorem hz34 : ∀ j, lwx (W j) = 3 → Rf W [34, 50] j j := fun j hj => Rf.of (mst_tn (by decide) (fun u => by
  rw [← u] at hj
  exact absurd hj (by decide)))
/-- an item's last rule and its ';', exactly: the rule from word a on, the fault ft before it -/
def ndV (W pl nq : Nat → Int) (sm : Nat → Nat → Prop) (M : mM) (q p O P n c L a : Nat) (nms : List nm9) (co : Int) (ft : Int × Int) (x : Int) (M' : mM) : Prop := ∃ a' : Nat, mI M' (q + 1) 2 = a' ∧ ((x = 0 ∧ Rf W [50] 0 a') ∨ (x = 1 ∧ ∃ (e : Nat) (E : Nat → Int) (Cf : Nat → Int × Int) (L' : Nat), a' = e + 1 ∧ Eo W 6 a e ∧ W e = 34 ∧ Rc W [50] 0 [50] (e + 1) ∧ ECq M (q + 1) p n W nq sm nms c co E Cf ∧ mI M' q 8 = kdq W E 0 a e ∧ FT M' (q + 1) (fst9 ft (fl W E pl 0 a e)) ∧ mI M' p 2 = ((L' + 1 : Nat) : Int) ∧ mI M' O L' = 0 ∧ Cd W Cf pl (mI M' O) (mI M' P) 0 0 0 a e L L' ∧ txF M q p O P 0 M' ∧ mI M' q 3 = mI M q 3))
theorem x_nd_tail {l1 : Int} (f0 : FI (txS q p O P) M0 M) (h : TX M z q w T A B D N C n p O P K Ab Be Cm V F ns sf ef c cnt L) (ha : mI M (q + 1) 2 = ((a : Nat) : Int)) (han : a ≤ n) (hs : mI M p 2 = ((L : Nat) : Int)) (hsa : L ≤ a) (hd : mI M (q + 1) 5 = ((0 : Nat) : Int)) (nk : NK M (q + 1) A n (vco l1 V) F (nco l1 ns) c) (hn : mI M q 3 = ((nw : Nat) : Int) ∧ nw < n ∧ mI M A nw = 2) (hY : 60 ≤ F → mI M (q + 1) 3 ≠ 0) (wt : WTq M T A B D n W pl nq sm) (hF : FT M (q + 1) ft) (hR : Rc W [50] 0 [61, 34, 50] a) : Ci G y_TR_readItemRule (d + 5) [vr q, vi 0, vi 0] M (fun x32 M31 => i32 x32 ∧ mOk M31 ∧ (((x32 = 0) → (ndQ M0 z q w T A B D N C n p O P K Ab Be Cm V F ns sf ef c cnt L l1 0 M31 ∧ ndV W pl nq sm M q p O P n c L a nms (mI M (q + 1) 6) ft 0 M31)) ∧ (¬ (x32 = 0) → (mK M31 q = 3 ∧ mK M31 (mR M31 q 0) = 4 ∧ Ci G y_RR_isTruth (d + 5) [vr (mR M31 q 0)] M31 (fun x39 M38 => i32 x39 ∧ mOk M38 ∧ (mK M38 q = 3 ∧ (x39 = 0 ∨ x39 = 1) ∧ ∀ M43, M43 = mUI M38 q 8 x39 → mK M43 (mR M43 q 0) = 4 ∧ Ci G y_RR_accept (d + 5) [vr (mR M43 q 0), vi 35] M43 (fun x47 M46 => i32 x47 ∧ mOk M46 ∧ ((x47 = 0 ∨ x47 = 1) ∧ ndQ M0 z q w T A B D N C n p O P K Ab Be Cm V F ns sf ef c cnt L l1 x47 M46 ∧ ndV W pl nq sm M q p O P n c L a nms (mI M (q + 1) 6) ft x47 M46)))))))) := by
  obtain ⟨⟨np0, np1, -, -⟩, ⟨nO0, nO1, -, -, -⟩, nP0, nP1, -, -, -⟩ := h.1.ne
  obtain ⟨q01, q10, q210, q211, -⟩ := q_ne q
  refine (x_TR_readItemRule (k := 0) (d0 := 0) (nms := nms) (ft := ft) (zz := [34, 50]) (by omega) (i32s (by omega) (by omega)) h ha han hs (Nat.le_refl _) hsa hd (by omega) nk wt hF (by rw [hd]; rfl) hz34 hR).mono (fun x32 M31 k => ?_)
  clear nk
  obtain ⟨⟨h31, x31, ⟨-, q31, t31⟩, k31⟩, -, E, Cf, ec, a9, ea9, iv⟩ := k
  have i32' : i32 x32 := by
    clear h h31 x31 t31
    rcases k31 with u | u <;> rw [u.1] <;> exact ⟨by decide, by decide⟩
  refine ⟨i32', h31.1.1.1, fun y => ?_, fun y => ?_⟩
  · obtain ⟨-, u⟩ := k31.resolve_right (fun u => by rw [y] at u; exact absurd u.1 (by decide))
    refine ⟨⟨f0.trans x31.1, Or.inl ⟨rfl, h31, u⟩⟩, a9, ea9, Or.inl ⟨rfl, ?_⟩⟩
    rcases iv with ⟨-, iv⟩ | ⟨iv, -⟩
    · exact iv
    · rw [y] at iv; exact absurd iv (by decide)
  obtain ⟨-, e, H, a', cd, p31, a31, aa, an, ea, d31⟩ := k31.resolve_left (fun u => y u.1)
  clear k31
  obtain ⟨-, L9, v1, v2, v3, v4, v5, v6, v7⟩ := iv.resolve_left (fun u => y u.1)
  have ea9' : a' = a9 := by rw [a31] at ea9; omega
  subst ea9'
  have v5 : FT M31 (q + 1) (fst9 ft (fl W E pl 0 a a')) := by
    unfold kft at v5
    rw [if_pos (Or.inl rfl)] at v5
    exact v5.un
  have wt31 : WTq M31 T A B D n W pl nq sm := wt.fi h.1 x31.1
  rw [h31.1.2.1.2.1]
  refine ⟨h31.1.2.1.1, h31.1.1.2.1.1, (x_RR_isTruth h31.1.1 h31.2.1.2.2.2).mono (fun x39 M38 k => ?_)⟩
  obtain ⟨e38, hx39, ex39⟩ := k
  subst e38
  have i39 : i32 x39 := m_b32 hx39
  refine ⟨i39, h31.1.1.1, h31.1.2.1.1, hx39, fun M43 e43 => ?_⟩
  obtain ⟨h43, x43, g43⟩ := tx_ui h31 i39 e43 (Or.inl rfl)
  have gg : ∀ b, b ≠ q → mI M43 b = mI M38 b := fun b hb => by
    funext i
    rw [g43, if_neg (fun u => hb u.1)]
  rw [h43.1.2.1.2.1]
  refine ⟨h43.1.1.2.1.1, (x_tx_accept (x := 35) (i32s (by omega) (by omega)) (by omega) h43 (by rw [gg _ q10]; exact a31) an).mono (fun x47 M46 k => ?_)⟩
  obtain ⟨i47, o46, hx47, h46, x46, k46, r46, b46, n46⟩ := k
  have wt43 : WTq M43 T A B D n W pl nq sm := wt31.fi h31.1 x43.1
  refine ⟨i47, o46, hx47, ?_⟩
  rcases k46 with ⟨e1, eA, a46, an46⟩ | ⟨e1, e2⟩
  · have w34 : W a' = 34 := (wt43.is (by omega) (by omega) (by omega)).mp eA
    have rc := rc_t v7 w34 (by decide)
    have key : ndV W pl nq sm M q p O P n c L a nms (mI M (q + 1) 6) ft x47 M46 := by
      refine ⟨a' + 1, a46, Or.inr ⟨e1, a', E, Cf, L9, rfl, v3, w34, rc, ec, ?_, ?_, ?_, ?_, ?_, ((x31.trans x43).trans x46).less (Nat.zero_le _), by rw [b46 q q01, g43, if_neg (fun u => absurd u.2 (by decide)), q31]⟩⟩
      · rw [b46 q q01, g43, if_pos ⟨rfl, rfl⟩, ex39]; exact v4
      · exact v5.same (by rw [r46 3 (by decide), gg _ q10]) (by rw [r46 4 (by decide), gg _ q10])
      · rw [b46 p np1, gg p np0]; exact v1
      · rw [b46 O nO1, gg O nO0]; exact v2
      · exact v6.cg (fun t _ _ => ⟨by rw [b46 O nO1, gg O nO0], by rw [b46 P nP1, gg P nP0]⟩)
    refine ⟨?_, key⟩
    refine ⟨((f0.trans x31.1).trans x43.1).trans x46.1, Or.inr ⟨e1, h46, fun y60 => x46.2.2.1 (x43.2.2.1 (x31.2.2.1 (hY y60))), e, a' + 1, nw, H, ?_, ?_, a46, an46, Nat.succ_le_succ ea, ?_, ?_, hn.2.1, ?_, ?_, ?_⟩⟩
    · exact cd.cg (fun i _ => by rw [b46 O nO1, gg O nO0]) (fun i _ => by rw [b46 P nP1, gg P nP0])
    · rw [b46 p np1, gg p np0]; exact p31
    · rw [r46 5 (by decide), gg _ q10, d31]; exact hd
    · rw [b46 q q01, g43, if_neg (fun u => absurd u.2 (by decide)), q31]; exact hn.1
    · rw [(h43.1.words x46.1).1, (h31.1.words x43.1).1, (h.1.words x31.1).1]; exact hn.2.2
    · rw [b46 q q01, g43, if_pos ⟨rfl, rfl⟩]; exact hx39
    · rw [b46 _ q211, gg _ q210, t31, if_pos rfl]
  · rw [e2]
    exact ⟨⟨(f0.trans x31.1).trans x43.1, Or.inl ⟨e1, h43, a', by rw [gg _ q10]; exact a31, an⟩⟩, a', by rw [gg _ q10]; exact a31, Or.inl ⟨e1, rf_t v7 (fun u => n46 e1 ((wt43.is (by omega) (by omega) (by omega)).mpr u)) (by decide)⟩⟩
/-- a const or formula, exactly: its first word a -/
def nmV (W pl nq : Nat → Int) (sm : Nat → Nat → Prop) (M : mM) (q p O P n c F L a : Nat) (nms : List nm9) (co : Int) (ft : Int × Int) (x : Int) (M' : mM) : Prop := ∃ a' : Nat, mI M' (q + 1) 2 = a' ∧ ((x = 0 ∧ Rf W [50] 0 a') ∨ (x = 1 ∧ (W (a + 1) = 1 ∧ W (a + 2) = 23) ∧ ∃ (e : Nat) (E : Nat → Int) (Cf : Nat → Int × Int) (L' : Nat) (f2 : Int × Int), a' = e + 1 ∧ Eo W 6 (a + 3) e ∧ W e = 34 ∧ Rc W [50] 0 [50] (e + 1) ∧ ECq M (q + 1) p n W nq sm nms c co E Cf ∧ mI M' q 8 = kdq W E 0 (a + 3) e ∧ (CT M (q + 1) p nms → nms.length = c → knf sm pl nms (a + 1) f2) ∧ FT M' (q + 1) (fst9 (fst9 (fst9 ft (if F < 60 then (0, 0) else (5, pl a))) f2) (fl W E pl 0 (a + 3) e)) ∧ mI M' p 2 = ((L' + 1 : Nat) : Int) ∧ mI M' O L' = 0 ∧ Cd W Cf pl (mI M' O) (mI M' P) 0 0 0 (a + 3) e L L' ∧ txF M q p O P 0 M' ∧ mI M' q 3 = ((a + 1 : Nat) : Int)))
theorem x_TR_readNamed {l1 : Int} (h4 : l1 = 4 ∨ l1 = 7) (h : TX M z q w T A B D N C n p O P K Ab Be Cm V F ns sf ef c cnt L) (ha : mI M (q + 1) 2 = a) (han : a < n) (hs : mI M p 2 = L) (hsa : L ≤ a) (hd : mI M (q + 1) 5 = 0) (wt : WTq M T A B D n W pl nq sm) (hF : FT M (q + 1) ft) (hW : W a = 3 ∨ W a = 6) (hR : Rc W [50] 0 [50] a) : Ci G y_TR_readNamed (d + 6) [vr q, vi l1] M (fun x M' => ndQ M z q w T A B D N C n p O P K Ab Be Cm V F ns sf ef c cnt L l1 x M' ∧ nmV W pl nq sm M q p O P n c F L a nms (if l1 = 4 then 1 else 0) ft x M') := by
  obtain ⟨⟨np0, np1, -, -⟩, -, -⟩ := h.1.ne
  obtain ⟨q01, q10, q210, q211, -⟩ := q_ne q
  have ok := h.1.1.1
  have rc1 : Rc W [50] 0 [1, 23, 61, 34, 50] (a + 1) := by
    refine (hR.trans (Rc.one (mst_n (by decide) (by decide) (ys := [51, 34, 50]) (t := 1) ?_ (Or.inl (by decide))))).trans (Rc.one (mst_n (r := [34, 50]) (by decide) (by decide) (ys := [1, 23, 61]) (t := 0) rfl (Or.inl (by decide))))
    rw [ex_50]
    unfold ex50
    rw [if_neg (by omega), if_pos hW]
  obtain ⟨t0, t1, t2, t3, t4, t5⟩ := h.1.2.1
  refine k_TR_readNamed ok (i32s (by omega) (by omega)) ⟨t0, fun v3 e3 => ?_⟩
  have b3 : v3 = 0 ∨ v3 = 1 := by rw [e3]; split <;> omega
  rw [t1]
  refine ⟨h.1.1.2.1.1, fun M9 e9 => ?_⟩
  obtain ⟨h9, x9, g9⟩ := tx_ui h (m_b32 b3) e9 (Or.inr (Or.inr (Or.inr (Or.inl ⟨rfl, Or.inr (Or.inr rfl)⟩))))
  rw [h9.1.2.1.2.2.2.1]
  refine ⟨h9.1.1.2.2.2.2.1.1, fun v13 e13 => ?_⟩
  have b13 : v13 = 0 ∨ v13 = 1 := by rw [e13]; split <;> omega
  have f9 := h9.2.1.2.1.1
  have y13 : 60 ≤ F → v13 ≠ 0 := fun y => by rw [e13, if_neg (by omega)]; decide
  refine (x_TR_readName (a := a) (nms := nms) (m_b32 b13) h9 (by rw [g9, if_neg (fun u => absurd u.2 (by decide))]; exact ha) han (wt.fi h.1 x9.1) (hF.same (by rw [g9, if_neg (fun u => absurd u.2 (by decide))]) (by rw [g9, if_neg (fun u => absurd u.2 (by decide))])) rc1).mono (fun x19 M18 k => ?_)
  obtain ⟨⟨h18, x18, n18, y18, k18⟩, a9, ea9, rv⟩ := k
  have wt18 : WTq M18 T A B D n W pl nq sm := (wt.fi h.1 x9.1).fi h9.1 x18.1
  have ev13 : (if v13 = 0 then ((0 : Int), (0 : Int)) else (5, pl a)) = if F < 60 then (0, 0) else (5, pl a) := by
    rw [e13, f9]
    by_cases u : F < 60
    · rw [if_pos u, if_pos (by omega)]
    · rw [if_neg u, if_neg (by omega)]
  rw [ev13] at rv
  have i19 : i32 x19 := by rcases k18 with u | u <;> rw [u.1] <;> exact ⟨by decide, by decide⟩
  refine ⟨i19, h18.1.1.1, fun y => ?_, fun y => ?_⟩
  · obtain ⟨-, u⟩ := k18.resolve_right (fun u => by rw [y] at u; exact absurd u.1 (by decide))
    refine ⟨⟨x9.1.trans x18.1, Or.inl ⟨rfl, h18, u⟩⟩, a9, ea9, Or.inl ⟨rfl, ?_⟩⟩
    rcases rv with ⟨-, rv⟩ | ⟨rv, -⟩
    · exact rv
    · rw [y] at rv; exact absurd rv (by decide)
  obtain ⟨-, a18, a2n, q18, A18⟩ := k18.resolve_left (fun u => y u.1)
  clear k18
  obtain ⟨-, ea2, w1, rc2, f2, F18, kn⟩ := rv.resolve_left (fun u => y u.1)
  have kn : CT M (q + 1) p nms → nms.length = c → knf sm pl nms (a + 1) f2 := fun ct hl => kn (ct.tx x9.2) hl
  rw [h18.1.2.1.2.1]
  refine ⟨h18.1.2.1.1, h18.1.1.2.1.1, (x_tx_accept (x := 24) (i32s (by omega) (by omega)) (by omega) h18 a18 a2n).mono (fun x26 M25 k => ?_)⟩
  obtain ⟨i26, o25, -, h25, x25, k25, r25, b25, n25⟩ := k
  refine ⟨i26, o25, fun y => ?_, fun y => ?_⟩
  · have e := (k25.resolve_left (fun u => by rw [y] at u; exact absurd u.1 (by decide))).2
    rw [e]
    exact ⟨⟨x9.1.trans x18.1, Or.inl ⟨rfl, h18, _, a18, a2n⟩⟩, a + 2, a18, Or.inl ⟨rfl, rf_t rc2 (fun u => n25 y ((wt18.is (by omega) (by omega) (by omega)).mpr u)) (by decide)⟩⟩
  obtain ⟨-, eA, a25, a3n⟩ := k25.resolve_right (fun u => y u.1)
  clear k25
  have w23 : W (a + 2) = 23 := (wt18.is (by omega) (by omega) (by omega)).mp eA
  have rc3 := rc_t rc2 w23 (by decide)
  have wt25 : WTq M25 T A B D n W pl nq sm := wt18.fi h18.1 x25.1
  have F25 : FT M25 (q + 1) (fst9 (fst9 ft (if F < 60 then (0, 0) else (5, pl a))) f2) := F18.same (r25 3 (by decide)) (r25 4 (by decide))
  have c25 : mI M25 (q + 1) 6 = v3 := by rw [r25 6 (by decide), n18.1 6 (by decide) (by decide) (by decide), g9, if_pos ⟨rfl, rfl⟩]
  have p25 : mI M25 p 2 = L := by rw [b25 p np1, n18.2.2 p np0 np1, g9, if_neg (fun u => np1 u.1)]; exact hs
  have d25 : mI M25 (q + 1) 5 = ((0 : Nat) : Int) := by rw [r25 5 (by decide), n18.1 5 (by decide) (by decide) (by decide), g9, if_neg (fun u => absurd u.2 (by decide))]; exact hd
  have nk : NK M25 (q + 1) A n (vco l1 V) F (nco l1 ns) c := by
    unfold vco nco
    by_cases y4 : l1 = 4
    · rw [if_pos y4, if_pos y4]
      rw [if_pos y4] at e3
      exact h25.2.1.2.2.1.nkc (by rw [c25, e3]; decide)
    · rw [if_neg y4, if_neg y4]
      exact h25.2.1.2.2.1.nk
  refine ⟨h25.1.2.1.1, (x_nd_tail (nms := nms) ((x9.1.trans x18.1).trans x25.1) h25 a25 a3n p25 (by omega) d25 nk ⟨by rw [b25 q q01]; exact q18, by omega, by rw [(h18.1.words x25.1).1]; exact A18⟩ (fun y => x25.2.2.1 (y18 (y13 y))) wt25 F25 rc3).mono (fun x32 M31 k => ?_)⟩
  have e6 : mI M25 (q + 1) 6 = if l1 = 4 then 1 else 0 := by rw [c25, e3]
  rw [e6] at k
  have up : ∀ {x : Int} {M9 : mM}, ndV W pl nq sm M25 q p O P n c L (a + 3) nms (if l1 = 4 then 1 else 0) (fst9 (fst9 ft (if F < 60 then (0, 0) else (5, pl a))) f2) x M9 → nmV W pl nq sm M q p O P n c F L a nms (if l1 = 4 then 1 else 0) ft x M9 := fun {x M9} hv => by
    obtain ⟨a', e1, hv⟩ := hv
    refine ⟨a', e1, ?_⟩
    rcases hv with hv | ⟨hx, e, E, Cf, L9, j1, j2, j3, j4, j5, j6, j7, j8, j9, j10, j11, j12⟩
    · exact Or.inl hv
    · exact Or.inr ⟨hx, ⟨w1, w23⟩, e, E, Cf, L9, f2, j1, j2, j3, j4, ((j5.to x25.2).to x18.2).to x9.2, j6, kn, j7, j8, j9, j10, (((x9.trans x18).trans x25).less (Nat.zero_le _)).trans j11, by rw [j12, b25 q q01]; exact q18⟩
  refine ⟨k.1, k.2.1, fun y => ?_, fun y => ?_⟩
  · obtain ⟨q1, q2⟩ := k.2.2.1 y
    exact ⟨q1, up q2⟩
  · obtain ⟨q1, q2, q3⟩ := k.2.2.2 y
    refine ⟨q1, q2, q3.mono (fun x39 M38 u => ⟨u.1, u.2.1, u.2.2.1, u.2.2.2.1, fun M43 e43 => ?_⟩)⟩
    obtain ⟨z1, z2⟩ := u.2.2.2.2 M43 e43
    exact ⟨z1, z2.mono (fun x47 M46 v => ⟨v.1, v.2.1, v.2.2.1, v.2.2.2.1, up v.2.2.2.2⟩)⟩
end TXD
end
section
/-! The class's reader of texts, exactly: the target. -/
section TXE
variable {G : mG} {d z q w T A B D N C n p O P K Ab Be Cm V F c s L L' cnt Bn a d0 V1 F1 nw : Nat} {M0 M M' M1 M2 Mc : mM} {ns ns' ns1 : Nat → Int} {sf ef sf' ef' : Nat → Nat} {H : Nat → Nat} {S R : Nat → Prop} {W pl nq : Nat → Int} {sm : Nat → Nat → Prop} {nms : List nm9} {ft : Int × Int} {zz zr : List Int}
/-- names and counts stay -/
def tgK (q p : Nat) (M M' : mM) : Prop := mI M' (q + 1) 19 = mI M (q + 1) 19 ∧ (∀ i, 6 ≤ i → i ≤ 9 → mI M' (q + 1 + i) = mI M (q + 1 + i)) ∧ (∀ i, i ≠ 2 → i ≠ 11 → mI M' p i = mI M p i) ∧ mI M' (p + 6) = mI M (p + 6) ∧ mI M' (p + 7) = mI M (p + 7)
theorem tgK.trans (h : tgK q p M M1) (k : tgK q p M1 M2) : tgK q p M M2 := ⟨k.1.trans h.1, fun i i6 i9 => (k.2.1 i i6 i9).trans (h.2.1 i i6 i9), fun i i2 i1 => (k.2.2.1 i i2 i1).trans (h.2.2.1 i i2 i1), k.2.2.2.1.trans h.2.2.2.1, k.2.2.2.2.trans h.2.2.2.2⟩
theorem tgK.tx (f : txE M q p O P s M') : tgK q p M M' := ⟨f.1 19 (by decide) (by decide) (by decide) (by decide) (by decide) (by decide) (by decide) (by decide), f.2.2.1, fun i i2 _ => f.2.2.2.1 i i2, f.2.2.2.2.1 6 (by decide) (by decide), f.2.2.2.2.1 7 (by decide) (by decide)⟩
theorem CT.tg (ct : CT M (q + 1) p nms) (k : tgK q p M M') : CT M' (q + 1) p nms := ct.cg k.1 (k.2.1 6 (by decide) (by decide)) (k.2.1 7 (by decide) (by decide)) (k.2.1 8 (by decide) (by decide)) (k.2.1 9 (by decide) (by decide)) k.2.2.2.1 k.2.2.2.2
/-- a target, exactly: the rule from word a + 1 on, the fault ft before it -/
def tgV (W pl nq : Nat → Int) (sm : Nat → Nat → Prop) (M : mM) (q p n c a : Nat) (nms : List nm9) (ft : Int × Int) (x : Int) (M' : mM) : Prop := ∃ a' : Nat, mI M' (q + 1) 2 = a' ∧ ((x = 0 ∧ Rf W [50] 0 a') ∨ (x = 1 ∧ mI M' p 11 ≠ -1 ∧ ∃ (e : Nat) (E : Nat → Int) (Cf : Nat → Int × Int), a' = e + 1 ∧ Eo W 6 (a + 1) e ∧ W e = 34 ∧ Rc W [50] 0 [50] (e + 1) ∧ ECq M (q + 1) p n W nq sm nms c 0 E Cf ∧ FT M' (q + 1) (fst9 (fst9 ft (fl W E pl 0 (a + 1) e)) (kft (kdq W E 0 (a + 1) e = 1) (pl (a + 1)))) ∧ tgK q p M M'))
theorem x_rt8 (f0 : FI (txS q p O P) M0 M) (h : TX M z q w T A B D N C n p O P K Ab Be Cm V F ns sf ef c cnt L) (ha : mI M (q + 1) 2 = a) (han : a < n) (hs : mI M p 2 = L) (hsa : L ≤ a) (hd : mI M (q + 1) 5 = 0) (e8 : M1 = mUI M (q + 1) 2 ((a : Int) + 1)) (e11 : M2 = mUI M1 (q + 1) 6 0) (hec : ∀ {E : Nat → Int} {Cf : Nat → Int × Int}, ECq M2 (q + 1) p n W nq sm nms c 0 E Cf → ECq Mc (q + 1) p n W nq sm nms c 0 E Cf) (hkm : tgK q p Mc M2) (wt : WTq M T A B D n W pl nq sm) (hF : FT M (q + 1) ft) (hW : W a = 11) (hR : Rc W [50] 0 [50] a) : mOk M2 ∧ mK M1 (mR M1 q 0) = 4 ∧ mR M1 q 0 = q + 1 ∧ Ci G y_TR_readItemRule (d + 5) [vr q, vi 0, vi 2] M2 (fun x14 M13 => i32 x14 ∧ mOk M13 ∧ (((x14 = 0) → (tgQ M0 z q w T A B D N C n p O P K Ab Be Cm V F ns sf ef c cnt L 0 M13 ∧ tgV W pl nq sm Mc q p n c a nms ft 0 M13)) ∧ (¬ (x14 = 0) → (mK M13 q = 3 ∧ mK M13 (mR M13 q 5) = 30 ∧ ((0 : Int) ≤ 0 ∧ 0 < (mN M13 (mR M13 q 5) : Int)) ∧ mK M13 (mR M13 q 2) = 6 ∧ ∀ M22, M22 = mUI M13 (mR M13 q 2) 11 (mI M13 (mR M13 q 5) 0) → mK M22 (mR M22 q 0) = 4 ∧ Ci G y_RR_accept (d + 5) [vr (mR M22 q 0), vi 35] M22 (fun x26 M25 => i32 x26 ∧ mOk M25 ∧ ((x26 = 0 ∨ x26 = 1) ∧ tgQ M0 z q w T A B D N C n p O P K Ab Be Cm V F ns sf ef c cnt L x26 M25 ∧ tgV W pl nq sm Mc q p n c a nms ft x26 M25)))))) := by
  have ap := h.1.apart
  have qp := h.1.2.2.2.2.2.1.2.1
  have ok := h.1.1.1
  have rc1 : Rc W [50] 0 [61, 34, 50] (a + 1) := by
    refine hR.trans (Rc.one (mst_n (by decide) (by decide) (ys := [61, 34, 50]) (t := 1) ?_ (Or.inl (by decide))))
    rw [ex_50]
    unfold ex50
    rw [if_neg (by omega), if_neg (by omega), if_neg (by omega), if_neg (by omega), if_pos hW]
  have hN : n ≤ 16384 := by have := h.1.1.2.2.2.1.2.2.1; have := h.1.1.2.2.2.1.1.2.2.2.2.2.2.1; omega
  obtain ⟨h1, x1, g1⟩ := tx_ui h ⟨by omega, by omega⟩ e8 (Or.inr (Or.inr (Or.inr (Or.inl ⟨rfl, Or.inl rfl⟩))))
  obtain ⟨h2, x2, g2⟩ := tx_ui h1 (i32s (by omega) (by omega)) e11 (Or.inr (Or.inr (Or.inr (Or.inl ⟨rfl, Or.inr (Or.inr rfl)⟩))))
  have gb : ∀ b i, b ≠ q + 1 → mI M2 b i = mI M b i := fun b i hb => by rw [g2, if_neg (by omega), g1, if_neg (by omega)]
  have a2 : mI M2 (q + 1) 2 = ((a + 1 : Nat) : Int) := by rw [g2, if_neg (by omega), g1, if_pos ⟨rfl, rfl⟩]; omega
  have d2 : mI M2 (q + 1) 5 = ((0 : Nat) : Int) := by rw [g2, if_neg (by omega), g1, if_neg (by omega)]; exact hd
  refine ⟨h2.1.1.1, by rw [h1.1.2.1.2.1]; exact h1.1.1.2.1.1, h1.1.2.1.2.1, (x_TR_readItemRule (k := 0) (s := L) (d0 := 0) (nms := nms) (ft := ft) (zz := [34, 50]) (by omega) (i32s (by omega) (by omega)) h2 a2 (by omega) (by rw [gb p 2 (by omega)]; exact hs) (Nat.le_refl _) (by omega) d2 (by omega) h2.2.1.2.2.1.nk ((wt.fi h.1 x1.1).fi h1.1 x2.1) (hF.same (by rw [g2, if_neg (by omega), g1, if_neg (by omega)]) (by rw [g2, if_neg (by omega), g1, if_neg (by omega)])) (by rw [d2]; rfl) hz34 rc1).mono (fun x14 M13 k => ?_)⟩
  obtain ⟨⟨h13, x13, ⟨c13, q13, t13⟩, k13⟩, -, E, Cf, ec, a9, ea9, iv⟩ := k
  have e26 : mI M2 (q + 1) 6 = 0 := by rw [g2, if_pos ⟨rfl, rfl⟩]
  rw [e26] at ec
  have wt13 : WTq M13 T A B D n W pl nq sm := ((wt.fi h.1 x1.1).fi h1.1 x2.1).fi h2.1 x13.1
  have i14 : i32 x14 := by rcases k13 with u | u <;> rw [u.1] <;> exact i32s (by omega) (by omega)
  refine ⟨i14, h13.1.1.1, fun y => ?_, fun y => ?_⟩
  · obtain ⟨-, u⟩ := k13.resolve_right (fun u => by have := u.1; omega)
    refine ⟨⟨((f0.trans x1.1).trans x2.1).trans x13.1, Or.inl ⟨rfl, L, h13, u⟩⟩, a9, ea9, Or.inl ⟨rfl, ?_⟩⟩
    rcases iv with ⟨-, iv⟩ | ⟨iv, -⟩
    · exact iv
    · rw [y] at iv; exact absurd iv (by decide)
  obtain ⟨-, e, H, a', cd, p13, a13, aa, an, ea, d13⟩ := k13.resolve_left (fun u => y u.1)
  clear k13
  obtain ⟨-, L9, v1, v2, v3, v4, v5, v6, v7⟩ := iv.resolve_left (fun u => y u.1)
  clear iv
  have ea9' : a' = a9 := by rw [a13] at ea9; omega
  subst ea9'
  have v5 : FT M13 (q + 1) (fst9 (fst9 ft (fl W E pl 0 (a + 1) a')) (kft (kdq W E 0 (a + 1) a' = 1) (pl (a + 1)))) := by
    rw [show ((2 : Int) = 0 ∨ kdq W E 0 (a + 1) a' = if (2 : Int) = 2 then 1 else 0) = (kdq W E 0 (a + 1) a' = 1) from propext ⟨fun u => u.resolve_left (by decide), fun u => Or.inr u⟩] at v5
    exact v5
  obtain ⟨⟨np0, np1, np21, -⟩, ⟨nO0, nO1, -, -, nOp⟩, nP0, nP1, -, -, nPp⟩ := h13.1.ne
  have pn : ∀ i, 3 ≤ i → p + i ≠ p := fun i hi => by omega
  have qn : ∀ i, i ≤ 10 → q + i ≠ p := fun i hi => by omega
  obtain ⟨t0, t1, t2, t3, t4, t5⟩ := h13.1.2.1
  obtain ⟨s1, s2, s3, s4⟩ := h13.1.2.2.1
  rw [t3, t4, s3, t13, if_pos rfl]
  refine ⟨t0, s1, ⟨by omega, by omega⟩, h13.1.1.2.2.2.2.1.1, fun M22 e22 => ?_⟩
  have f22 : FI (txS q p O P) M13 M22 := by rw [e22]; exact FI.ui (Or.inr (Or.inr (Or.inr (Or.inl rfl))))
  have g22 : ∀ b i, mI M22 b i = if b = p ∧ i = 11 then (L : Int) else mI M13 b i := fun b i => mI_ui b i e22
  have gg : ∀ b, b ≠ p → mI M22 b = mI M13 b := fun b hb => by
    funext i
    rw [g22, if_neg (fun u => hb u.1)]
  have o22 : mOk M22 := by rw [e22]; exact mOk_UI h13.1.1.1 ⟨by omega, by omega⟩
  have hse : L ≤ e := cd.2.2.2.2.2
  have h22 : TX M22 z q w T A B D N C n p O P K Ab Be Cm V F ns sf ef c cnt (e + 1) := by
    refine ⟨h13.1.fi o22 f22, ?_, ?_⟩
    · obtain ⟨u1, u2, u3, u4⟩ := h13.2.1
      refine ⟨by rw [g22, if_neg (by omega)]; exact u1, by rw [g22, if_neg (by omega)]; exact u2, ?_, fun j => by rw [gg _ (by omega)]; exact u4 j⟩
      unfold TN at u3 ⊢
      rw [(h13.1.words f22).1, gg _ (by omega), gg _ (by omega), gg _ (by omega), gg _ (by omega), gg _ (by omega)]
      exact u3
    · obtain ⟨u1, u2⟩ := h13.2.2
      refine ⟨by rw [g22, if_neg (by omega)]; exact u1, fun y0 => ?_⟩
      rw [gg _ (qn 1 (by decide))] at y0
      obtain ⟨u, eu, gu⟩ := u2 y0
      obtain ⟨v1, v2, v3, v4, v5, v6, v7⟩ := gu.longer (L' := e + 1) (Nat.le_succ_of_le hse)
      have cg : ∀ {s h : Nat}, PC M13 O P V F ns ef (e + 1) s h → PC M22 O P V F ns ef (e + 1) s h := fun hc => hc.cg (fun i _ => by rw [gg O nOp]) (fun i _ => by rw [gg P nPp])
      refine ⟨u, by rw [gg _ (pn _ (by decide))]; exact eu, v1.cg (fun i _ => by rw [gg O nOp]) (fun i _ => by rw [gg P nPp]) (fun i _ => by rw [gg _ (pn _ (by decide))]) (fun i _ => by rw [gg _ (pn _ (by decide))]), Or.inr ⟨L, by rw [g22, if_pos ⟨rfl, rfl⟩], cg ⟨e, H, F, cd, Nat.lt_succ_self _, Nat.le_refl _, fun y hy h7 => ((gu.1 y hy).2 h7).2.2.1⟩⟩, fun j hj => ?_, by rw [gg _ (pn _ (by decide))]; exact v4, by rw [gg _ (pn _ (by decide))]; exact v5, by rw [gg _ (pn _ (by decide))]; exact v6, fun b hb => ?_⟩
      · obtain ⟨s, y1, y2⟩ := v3 j hj
        exact ⟨s, by rw [gg _ (pn _ (by decide))]; exact y1, cg y2⟩
      · obtain ⟨s1, s2, y1, y2, y3, y4⟩ := v7 b hb
        exact ⟨s1, s2, by rw [gg _ (pn _ (by decide))]; exact y1, cg y2, by rw [gg _ (pn _ (by decide))]; exact y3, cg y4⟩
  have a22 : mI M22 (q + 1) 2 = (a' : Int) := by rw [gg _ (by omega)]; exact a13
  rw [h22.1.2.1.2.1]
  refine ⟨h22.1.1.2.1.1, (x_tx_accept (x := 35) (i32s (by omega) (by omega)) (by omega) h22 a22 an).mono (fun x26 M25 k => ?_)⟩
  obtain ⟨i26, o25, hx26, h25, x25, k25, r25, b25, n25⟩ := k
  have wt22 : WTq M22 T A B D n W pl nq sm := wt13.fi h13.1 f22
  refine ⟨i26, o25, hx26, ?_⟩
  rcases k25 with ⟨e1, eA, a25, an25⟩ | ⟨e1, e2⟩
  · have w34 : W a' = 34 := (wt22.is (by omega) (by omega) (by omega)).mp eA
    have rc := rc_t v7 w34 (by decide)
    have key : tgV W pl nq sm Mc q p n c a nms ft x26 M25 := ⟨a' + 1, a25, Or.inr ⟨e1, by rw [b25 p (by omega), g22, if_pos ⟨rfl, rfl⟩]; omega, a', E, Cf, rfl, v3, w34, rc, hec ec, v5.same (by rw [r25 3 (by decide), gg _ (by omega)]) (by rw [r25 4 (by decide), gg _ (by omega)]), ((hkm.trans (tgK.tx x13.2)).trans ⟨by rw [gg _ (by omega)], fun i _ i9 => gg _ (by omega), fun i _ i1 => by rw [g22, if_neg (fun u => i1 u.2)], gg _ (by omega), gg _ (by omega)⟩).trans (tgK.tx x25.2)⟩⟩
    refine ⟨?_, key⟩
    refine ⟨((((f0.trans x1.1).trans x2.1).trans x13.1).trans f22).trans x25.1, Or.inr ⟨e1, e + 1, a' + 1, h25, by rw [b25 p (by omega), g22, if_neg (by omega)]; exact p13, a25, by omega, by omega, by rw [r25 5 (by decide), gg _ (by omega), d13, d2]; rfl⟩⟩
  · rw [e2]
    exact ⟨⟨(((f0.trans x1.1).trans x2.1).trans x13.1).trans f22, Or.inl ⟨e1, e + 1, h22, a', a22, an⟩⟩, a', a22, Or.inl ⟨e1, rf_t v7 (fun u => n25 e1 ((wt22.is (by omega) (by omega) (by omega)).mpr u)) (by decide)⟩⟩
theorem x_TR_readTarget (h : TX M z q w T A B D N C n p O P K Ab Be Cm V F ns sf ef c cnt L) (ha : mI M (q + 1) 2 = a) (han : a < n) (hs : mI M p 2 = L) (hsa : L ≤ a) (hd : mI M (q + 1) 5 = 0) (wt : WTq M T A B D n W pl nq sm) (hF : FT M (q + 1) ft) (hW : W a = 11) (hR : Rc W [50] 0 [50] a) : Ci G y_TR_readTarget (d + 6) [vr q] M (fun x M' => tgQ M z q w T A B D N C n p O P K Ab Be Cm V F ns sf ef c cnt L x M' ∧ tgV W pl nq sm M q p n c a nms (fst9 ft (if mI M p 11 = -1 then (0, 0) else (4, pl a))) x M') := by
  have ap := h.1.apart
  have ok := h.1.1.1
  have hN : n ≤ 16384 := by have := h.1.1.2.2.2.1.2.2.1; have := h.1.1.2.2.2.1.1.2.2.2.2.2.2.1; omega
  obtain ⟨t0, t1, t2, t3, t4, t5⟩ := h.1.2.1
  refine k_TR_readTarget ok ?_
  rw [t1, t3, ha]
  refine ⟨t0, h.1.1.2.2.2.2.1.1, fun yt => ⟨h.1.1.2.1.1, ⟨by omega, by omega⟩, fun M8 e8 => ?_⟩, fun yt => ⟨h.1.1.2.1.1, (s_RR_here h.1.1 ha (by omega)).mono (fun x31 M30 k => ?_)⟩⟩
  · obtain ⟨h8, x8, g8⟩ := tx_ui h ⟨by omega, by omega⟩ e8 (Or.inr (Or.inr (Or.inr (Or.inl ⟨rfl, Or.inl rfl⟩))))
    have k4 := (s_rt8 (G := G) (d := d) (M0 := M) FI.refl h ha han hs hsa hd e8 rfl).2.1
    have kr := (s_rt8 (G := G) (d := d) (M0 := M) FI.refl h ha han hs hsa hd e8 rfl).2.2.1
    refine ⟨k4, fun M11 e11 => ?_⟩
    rw [kr] at e11
    obtain ⟨h11, x11, g11⟩ := tx_ui h8 (i32s (by omega) (by omega)) e11 (Or.inr (Or.inr (Or.inr (Or.inl ⟨rfl, Or.inr (Or.inr rfl)⟩))))
    rw [if_pos yt]
    exact (x_rt8 (Mc := M) (nms := nms) FI.refl h ha han hs hsa hd e8 e11 (fun k => (k.to x11.2).to x8.2) ((tgK.tx x8.2).trans (tgK.tx x11.2)) wt hF.none hW hR).2.2.2
  · obtain ⟨e30, ex31, x0, x1⟩ := k
    subst e30
    refine ⟨i32s (by omega) (by omega), ok, h.1.1.2.1.1, (x_tx_note (x := 4) (i32s (by omega) (by omega)) (by omega) (i32s (by omega) (by omega)) h).mono (fun M34 kk => ?_)⟩
    obtain ⟨o34, h34, x34, u3, u4, u5, u6⟩ := kk
    have eB : x31 = pl a := by rw [ex31]; exact (wt.1 a (by omega)).2.2
    have F34 := u6 ft hF
    rw [eB] at F34
    rw [if_neg yt]
    have a34 : mI M34 (q + 1) 2 = a := by rw [u4 2 (by decide) (by decide)]; exact ha
    have p34 : mI M34 p 2 = L := by rw [u5 p (by have := h.1.2.2.2.2.2.1.2.1; omega)]; exact hs
    have d34 : mI M34 (q + 1) 5 = 0 := by rw [u4 5 (by decide) (by decide)]; exact hd
    rw [h34.1.2.1.2.1, a34]
    refine ⟨o34, h34.1.2.1.1, h34.1.1.2.1.1, ⟨by omega, by omega⟩, fun M8 e8 => ?_⟩
    have k4 := (s_rt8 (G := G) (d := d) x34.1 h34 a34 han p34 hsa d34 e8 rfl).2.1
    have kr := (s_rt8 (G := G) (d := d) x34.1 h34 a34 han p34 hsa d34 e8 rfl).2.2.1
    refine ⟨k4, fun M11 e11 => ?_⟩
    rw [kr] at e11
    obtain ⟨h8, x8, g8⟩ := tx_ui h34 ⟨by omega, by omega⟩ e8 (Or.inr (Or.inr (Or.inr (Or.inl ⟨rfl, Or.inl rfl⟩))))
    obtain ⟨h11, x11, g11⟩ := tx_ui h8 (i32s (by omega) (by omega)) e11 (Or.inr (Or.inr (Or.inr (Or.inl ⟨rfl, Or.inr (Or.inr rfl)⟩))))
    exact (x_rt8 (Mc := M30) (nms := nms) x34.1 h34 a34 han p34 hsa d34 e8 e11 (fun k => ((k.to x11.2).to x8.2).to x34.2) (((tgK.tx x34.2).trans (tgK.tx x8.2)).trans (tgK.tx x11.2)) (wt.fi h.1 x34.1) F34 hW hR).2.2.2
end TXE
end
section
/-! The class's reader of texts, exactly: vars. -/
section TXF
variable {G : mG} {d z q w T A B D N C n p O P K Ab Be Cm V F c s s' L L' cnt Bn a d0 V1 F1 nw k b b' : Nat} {M0 M M' M1 M2 Mc : mM} {ns ns' ns1 : Nat → Int} {sf ef sf' ef' : Nat → Nat} {H : Nat → Nat} {S R : Nat → Prop} {W pl nq E : Nat → Int} {Cf : Nat → Int × Int} {sm : Nat → Nat → Prop} {nms : List nm9} {ft : Int × Int} {zz zr : List Int}
theorem fst9_as (x y z : Int × Int) : fst9 (fst9 x y) z = fst9 x (fst9 y z) := by
  unfold fst9
  by_cases c : x.1 = 0
  · rw [if_pos c, if_pos c]
  · rw [if_neg c, if_neg c, if_neg c]
/-- the fault of a rule that must be of the kind tr -/
noncomputable def vrf (W E pl : Nat → Int) (tr : Int) (x y : Nat) : Int × Int := fst9 (fl W E pl 0 x y) (kft (kdq W E 0 x y = tr) (pl x))
/-- the code of an item's rule k: the words x to y, below b -/
def rvQz (W pl : Nat → Int) (Cf : Nat → Int × Int) (q O P k x y b : Nat) (M' : mM) : Prop := ∃ s L' : Nat, mI M' (q + 21) k = (s : Int) ∧ mI M' O L' = 0 ∧ Cd W Cf pl (mI M' O) (mI M' P) 0 0 0 x y s L' ∧ L' < b ∧ mI M' (q + 22) k = pl x
theorem rvQz.cg {x y : Nat} (h : rvQz W pl Cf q O P k x y b M) (h21 : mI M' (q + 21) k = mI M (q + 21) k) (h22 : mI M' (q + 22) k = mI M (q + 22) k) (hO : ∀ i, i < b → mI M' O i = mI M O i ∧ mI M' P i = mI M P i) (hb : b ≤ b') : rvQz W pl Cf q O P k x y b' M' := by
  obtain ⟨s, L', h1, h2, h3, h4, h5⟩ := h
  exact ⟨s, L', by rw [h21]; exact h1, by rw [(hO L' h4).1]; exact h2, h3.cg (fun t _ t2 => hO t (by omega)), by omega, by rw [h22]; exact h5⟩
theorem irv_ft {l2 tr x : Int} {a' : Nat} (h : FT M' (q + 1) (fst9 (fst9 ft (fl W E pl 0 a a')) (kft (l2 = 0 ∨ kdq W E 0 a a' = (if l2 = 2 then 1 else 0)) (pl a)))) (hl : (l2 = 0 ∨ kdq W E 0 a a' = (if l2 = 2 then 1 else 0)) ↔ kdq W E 0 a a' = tr) : FT M' (q + 1) (fst9 ft (vrf W E pl tr a a')) := by
  rw [propext hl, fst9_as] at h
  exact h
theorem hz_t {y : Int} (hy : y < 18) : ∀ j, lwx (W j) = 3 → Rf W (y :: zr) j j := fun j hj => Rf.of (mst_tn (by omega) (fun u => by
  rw [← u] at hj
  unfold lwx at hj
  rw [if_neg (by omega), if_neg (by omega), if_neg (by omega), if_neg (by omega), if_neg (by omega), if_neg (by omega)] at hj
  exact absurd hj (by decide)))
theorem rc54 (h : W a ≠ 9) : Rc W (54 :: zr) a zr a := Rc.one (mst_n (by decide) (by decide) (ys := []) (t := 0) (by
  show ex54 (W a) = _
  unfold ex54
  rw [if_neg h]) (Or.inl (by decide)))
theorem hz54 : ∀ j, lwx (W j) = 3 → Rf W [54, 34, 50] j j := fun j hj => (rc54 (fun u => by
  rw [u] at hj
  exact absurd hj (by decide))).rf (hz34 j hj)
/-- the ';' -/
def enV (W : Nat → Int) (q p O P a : Nat) (M : mM) (x : Int) (M' : mM) : Prop := ∃ a' : Nat, mI M' (q + 1) 2 = a' ∧ ((x = 0 ∧ Rf W [50] 0 a') ∨ (x = 1 ∧ a' = a + 1 ∧ W a = 34 ∧ Rc W [50] 0 [50] (a + 1) ∧ (∀ b, b ≠ q + 1 → mI M' b = mI M b) ∧ (∀ i, i ≠ 2 → mI M' (q + 1) i = mI M (q + 1) i) ∧ txF M q p O P 0 M'))
theorem x_rv35 (f0 : FI (txS q p O P) M0 M) (h : TX M z q w T A B D N C n p O P K Ab Be Cm V F ns sf ef c cnt L) (hs : mI M p 2 = ((s : Nat) : Int)) (hLs : L ≤ s) (hsa : s ≤ a + 1) (ha : mI M (q + 1) 2 = ((a : Nat) : Int)) (han : a ≤ n) (hd : mI M (q + 1) 5 = 0) (hn : mI M q 3 = ((nw : Nat) : Int) ∧ nw < n ∧ mI M A nw = 2 ∧ mI M q 4 = ((L : Nat) : Int) ∧ (mI M q 8 = 0 ∨ mI M q 8 = 1) ∧ (12 ≤ V → mI M (q + 1) 3 ≠ 0)) (h8 : mI M q 8 = 0 → rvR M q O P F ns L s 0 ∧ rvR M q O P F ns L s 1) (h7 : mI M q 7 ≠ 0 → rvR M q O P F ns L s 2) (wt : WTq M T A B D n W pl nq sm) (hR : Rc W [50] 0 [34, 50] a) : Ci G y_RR_accept d [vr (q + 1), vi 35] M (fun x69 M68 => i32 x69 ∧ mOk M68 ∧ ((x69 = 0 ∨ x69 = 1) ∧ vaQ M0 z q w T A B D N C n p O P K Ab Be Cm V F ns sf ef c cnt L x69 M68 ∧ enV W q p O P a M x69 M68)) := by
  have ap := h.1.apart
  have qp := h.1.2.2.2.2.2.1.2.1
  refine (x_tx_accept (x := 35) (i32s (by omega) (by omega)) (by omega) h ha han).mono (fun x M' k => ?_)
  obtain ⟨i1, o1, hx, h1, x1, k1, r1, b1, m1⟩ := k
  refine ⟨i1, o1, hx, ?_⟩
  rcases k1 with ⟨e1, eA, a1, an1⟩ | ⟨e1, e2⟩
  · have w34 : W a = 34 := (wt.is han (by decide) (by decide)).mp eA
    refine ⟨?_, a + 1, a1, Or.inr ⟨e1, rfl, w34, rc_t hR w34 (by decide), b1, r1, x1.less (Nat.zero_le _)⟩⟩
    obtain ⟨n1, n2, n3, n4, n5, n6⟩ := hn
    refine ⟨f0.trans x1.1, Or.inr ⟨e1, h1, s, a + 1, nw, ⟨by rw [b1 p (by omega)]; exact hs, hLs, by omega, a1, by omega, by rw [r1 5 (by decide)]; exact hd, by rw [b1 q (by omega)]; exact n1, n2, by rw [(h.1.words x1.1).1]; exact n3, by rw [b1 q (by omega)]; exact n4, by rw [b1 q (by omega)]; exact n5, fun y => by rw [r1 3 (by decide)]; exact n6 y⟩, fun y => ?_, fun y => ?_⟩⟩
    · rw [b1 q (by omega)] at y
      obtain ⟨u1, u2⟩ := h8 y
      exact ⟨u1.cg (by rw [b1 _ (by omega)]) (fun i _ => ⟨by rw [b1 O (by omega)], by rw [b1 P (by omega)]⟩) (Nat.le_refl _), u2.cg (by rw [b1 _ (by omega)]) (fun i _ => ⟨by rw [b1 O (by omega)], by rw [b1 P (by omega)]⟩) (Nat.le_refl _)⟩
    · rw [b1 q (by omega)] at y
      exact (h7 y).cg (by rw [b1 _ (by omega)]) (fun i _ => ⟨by rw [b1 O (by omega)], by rw [b1 P (by omega)]⟩) (Nat.le_refl _)
  · rw [e2]
    exact ⟨⟨f0, Or.inl ⟨e1, h, a, ha, han⟩⟩, a, ha, Or.inl ⟨e1, rf_t hR (fun u => m1 e1 ((wt.is han (by decide) (by decide)).mpr u)) (by decide)⟩⟩
/-- a var's end, exactly: from its init at word a on; s: where the code stands -/
def inV (W pl nq : Nat → Int) (sm : Nat → Nat → Prop) (q p O P n c a s : Nat) (nms : List nm9) (ft : Int × Int) (M : mM) (x : Int) (M' : mM) : Prop := ∃ a' : Nat, mI M' (q + 1) 2 = a' ∧ ((x = 0 ∧ Rf W [50] 0 a') ∨ (x = 1 ∧ Rc W [50] 0 [50] a' ∧ (∀ i, i ≠ 7 → mI M' q i = mI M q i) ∧ (∀ j, j ≠ 2 → mI M' (q + 21) j = mI M (q + 21) j ∧ mI M' (q + 22) j = mI M (q + 22) j) ∧ (∀ i, i < s → mI M' O i = mI M O i ∧ mI M' P i = mI M P i) ∧ ∃ (e b : Nat) (I : Int × Int), a' = e + 1 ∧ W e = 34 ∧ FT M' (q + 1) (fst9 ft I) ∧ mI M' p 2 = (b : Int) ∧ (s ≤ b ∧ txF M q p O P 0 M') ∧ ((W a ≠ 9 ∧ a = e ∧ mI M' q 7 = 0 ∧ I = (0, 0)) ∨ (W a = 9 ∧ mI M' q 7 = 1 ∧ ∃ E Cf, Eo W 6 (a + 1) e ∧ ECq M (q + 1) p n W nq sm nms c 1 E Cf ∧ I = vrf W E pl (mI M q 8) (a + 1) e ∧ rvQz W pl Cf q O P 2 (a + 1) e b M'))))
theorem x_rv10 (f0 : FI (txS q p O P) M0 M) (h : TX M z q w T A B D N C n p O P K Ab Be Cm V F ns sf ef c cnt L) (hs : mI M p 2 = ((s : Nat) : Int)) (hLs : L ≤ s) (hsa : s ≤ a + 1) (ha : mI M (q + 1) 2 = ((a : Nat) : Int)) (han : a ≤ n) (hd : mI M (q + 1) 5 = 0) (hr6' : mI M (q + 1) 6 = 1) (hn : mI M q 3 = ((nw : Nat) : Int) ∧ nw < n ∧ mI M A nw = 2 ∧ mI M q 4 = ((L : Nat) : Int) ∧ (mI M q 8 = 0 ∨ mI M q 8 = 1) ∧ (12 ≤ V → mI M (q + 1) 3 ≠ 0)) (h8 : mI M q 8 = 0 → rvR M q O P F ns L s 0 ∧ rvR M q O P F ns L s 1) (wt : WTq M T A B D n W pl nq sm) (hF : FT M (q + 1) ft) (hR : Rc W [50] 0 [54, 34, 50] a) : Ci G y_RR_accept (d + 5) [vr (q + 1), vi 10] M (fun x59 M58 => i32 x59 ∧ mOk M58 ∧ (mK M58 q = 3 ∧ (x59 = 0 ∨ x59 = 1) ∧ ∀ M63, M63 = mUI M58 q 7 x59 → ((mI M63 q 7 = 0) → (mK M63 (mR M63 q 0) = 4 ∧ Ci G y_RR_accept (d + 5) [vr (mR M63 q 0), vi 35] M63 (fun x69 M68 => i32 x69 ∧ mOk M68 ∧ ((x69 = 0 ∨ x69 = 1) ∧ vaQ M0 z q w T A B D N C n p O P K Ab Be Cm V F ns sf ef c cnt L x69 M68 ∧ inV W pl nq sm q p O P n c a s nms ft M x69 M68)))) ∧ (¬ (mI M63 q 7 = 0) → (∀ v73 : Int, v73 = (if (mI M63 q 8 = 0) then 1 else 2) → Ci G y_TR_readItemRule (d + 5) [vr q, vi 2, vi v73] M63 (fun x78 M77 => i32 x78 ∧ mOk M77 ∧ (((x78 = 0) → (vaQ M0 z q w T A B D N C n p O P K Ab Be Cm V F ns sf ef c cnt L 0 M77 ∧ inV W pl nq sm q p O P n c a s nms ft M 0 M77)) ∧ (¬ (x78 = 0) → (mK M77 q = 3 ∧ mK M77 (mR M77 q 0) = 4 ∧ Ci G y_RR_accept (d + 5) [vr (mR M77 q 0), vi 35] M77 (fun x85 M84 => i32 x85 ∧ mOk M84 ∧ ((x85 = 0 ∨ x85 = 1) ∧ vaQ M0 z q w T A B D N C n p O P K Ab Be Cm V F ns sf ef c cnt L x85 M84 ∧ inV W pl nq sm q p O P n c a s nms ft M x85 M84)))))))))) := by
  have hr6 : mI M (q + 1) 6 ≠ 0 := by rw [hr6']; decide
  obtain ⟨⟨np0, np1, -, -⟩, ⟨nO0, nO1, -, -, -⟩, nP0, nP1, -, -, -⟩ := h.1.ne
  obtain ⟨q01, q10, q210, q211, -, -, q220, q221, -⟩ := q_ne q
  have ap := h.1.apart
  have qp := h.1.2.2.2.2.2.1.2.1
  obtain ⟨n1, n2, n3, n4, n5, n6⟩ := hn
  refine (x_tx_accept (x := 10) (i32s (by omega) (by omega)) (by omega) h ha han).mono (fun x59 M58 k => ?_)
  obtain ⟨i1, o1, hx, h1, x1, k1, r1, b1, m1⟩ := k
  refine ⟨i1, o1, h1.1.2.1.1, hx, fun M63 e63 => ?_⟩
  obtain ⟨h63, x63, g63⟩ := tx_ui h1 i1 e63 (Or.inl rfl)
  have gg : ∀ b, b ≠ q → mI M63 b = mI M58 b := fun b hb => by
    funext i
    rw [g63, if_neg (by omega)]
  have bb : ∀ b, b ≠ q → b ≠ q + 1 → mI M63 b = mI M b := fun b h0 h1 => by rw [gg b h0, b1 b h1]
  have qq : ∀ i, i ≠ 7 → mI M63 q i = mI M q i := fun i hi => by rw [g63, if_neg (fun u => hi u.2), b1 q (by omega)]
  have rr : ∀ i, i ≠ 2 → mI M63 (q + 1) i = mI M (q + 1) i := fun i hi => by rw [gg _ (by omega), r1 i hi]
  have A63 : mI M63 A nw = 2 := by rw [(h1.1.words x63.1).1, (h.1.words x1.1).1]; exact n3
  have hn63 : mI M63 q 3 = ((nw : Nat) : Int) ∧ nw < n ∧ mI M63 A nw = 2 ∧ mI M63 q 4 = ((L : Nat) : Int) ∧ (mI M63 q 8 = 0 ∨ mI M63 q 8 = 1) ∧ (12 ≤ V → mI M63 (q + 1) 3 ≠ 0) := ⟨by rw [qq 3 (by decide)]; exact n1, n2, A63, by rw [qq 4 (by decide)]; exact n4, by rw [qq 8 (by decide)]; exact n5, fun y => by rw [rr 3 (by decide)]; exact n6 y⟩
  have v63 : mI M63 q 8 = 0 → rvR M63 q O P F ns L s 0 ∧ rvR M63 q O P F ns L s 1 := fun y => by
    rw [qq 8 (by decide)] at y
    obtain ⟨u1, u2⟩ := h8 y
    exact ⟨u1.cg (by rw [bb _ q210 q211]) (fun i _ => ⟨by rw [bb O nO0 nO1], by rw [bb P nP0 nP1]⟩) (Nat.le_refl _), u2.cg (by rw [bb _ q210 q211]) (fun i _ => ⟨by rw [bb O nO0 nO1], by rw [bb P nP0 nP1]⟩) (Nat.le_refl _)⟩
  have wt63 : WTq M63 T A B D n W pl nq sm := (wt.fi h.1 x1.1).fi h1.1 x63.1
  have F63 : FT M63 (q + 1) ft := hF.same (rr 3 (by decide)) (rr 4 (by decide))
  have q7 : mI M63 q 7 = x59 := by rw [g63, if_pos ⟨rfl, rfl⟩]
  have p63 : mI M63 p 2 = ((s : Nat) : Int) := by rw [bb p np0 np1]; exact hs
  have d63 : mI M63 (q + 1) 5 = 0 := by rw [rr 5 (by decide)]; exact hd
  rw [h63.1.2.1.2.1]
  refine ⟨fun y => ⟨h63.1.1.2.1.1, ?_⟩, fun y v73 e73 => ?_⟩
  · have e0 : x59 = 0 := by
      rw [g63, if_pos ⟨rfl, rfl⟩] at y
      exact y
    have e2 := (k1.resolve_left (fun u => by have := u.1; omega)).2
    have a63 : mI M63 (q + 1) 2 = ((a : Nat) : Int) := by rw [gg _ (by omega), e2]; exact ha
    have n9 : W a ≠ 9 := fun u => m1 e0 ((wt.is han (by decide) (by decide)).mpr u)
    refine (x_rv35 ((f0.trans x1.1).trans x63.1) h63 p63 hLs hsa a63 han d63 hn63 v63 (fun u => absurd y u) wt63 (hR.trans (rc54 n9))).mono (fun x69 M68 u => ⟨u.1, u.2.1, u.2.2.1, u.2.2.2.1, ?_⟩)
    obtain ⟨a', j1, j2⟩ := u.2.2.2.2
    refine ⟨a', j1, ?_⟩
    rcases j2 with j2 | ⟨j2, j3, j4, j5, j6, j7, j8⟩
    · exact Or.inl j2
    · refine Or.inr ⟨j2, by rw [j3]; exact j5, fun i hi => by rw [j6 q q01]; exact qq i hi, fun j _ => ⟨by rw [j6 _ q211, bb _ q210 q211], by rw [j6 _ q221, bb _ q220 q221]⟩, fun i _ => ⟨by rw [j6 O nO1, bb O nO0 nO1], by rw [j6 P nP1, bb P nP0 nP1]⟩, a, s, (0, 0), j3, j4, (F63.same (j7 3 (by decide)) (j7 4 (by decide))).none, by rw [j6 p np1]; exact p63, ⟨Nat.le_refl _, ((x1.trans x63).less (Nat.zero_le _)).trans j8⟩, Or.inl ⟨n9, rfl, by rw [j6 q q01]; exact y, rfl⟩⟩
  · have e0 : x59 ≠ 0 := fun u => y (by rw [g63, if_pos ⟨rfl, rfl⟩]; exact u)
    obtain ⟨ex1, eA9, a58, an58⟩ := k1.resolve_right (fun u => e0 u.1)
    have w9 : W a = 9 := (wt.is han (by decide) (by decide)).mp eA9
    have rc1 : Rc W [50] 0 [61, 34, 50] (a + 1) := hR.trans (Rc.one (mst_n (by decide) (by decide) (ys := [61]) (t := 1) (by show ex54 (W a) = _; unfold ex54; rw [if_pos w9]) (Or.inl (by decide))))
    have a63 : mI M63 (q + 1) 2 = ((a + 1 : Nat) : Int) := by rw [gg _ (by omega)]; exact a58
    have i73 : i32 v73 := by rw [e73]; split <;> exact i32s (by omega) (by omega)
    have c63 : mI M63 (q + 1) 6 ≠ 0 := by rw [rr 6 (by decide)]; exact hr6
    refine (x_TR_readItemRule (k := 2) (d0 := 0) (nms := nms) (ft := ft) (zz := [34, 50]) (by omega) i73 h63 a63 (by omega) p63 hLs hsa d63 (by omega) (h63.2.1.2.2.1.nkc c63) wt63 F63 (by rw [d63]; rfl) hz34 rc1).mono (fun x78 M77 k => ?_)
    obtain ⟨⟨h77, x77, ⟨c77, q77, t77⟩, k77⟩, t22, E, Cf, ec, a9, ea9, iv⟩ := k
    rw [rr 6 (by decide), hr6'] at ec
    have ec : ECq M (q + 1) p n W nq sm nms c 1 E Cf := (ec.to x63.2).to x1.2
    have i78 : i32 x78 := by rcases k77 with u | u <;> rw [u.1] <;> exact i32s (by omega) (by omega)
    refine ⟨i78, h77.1.1.1, fun y => ?_, fun y => ?_⟩
    · obtain ⟨-, u⟩ := k77.resolve_right (fun u => by have := u.1; omega)
      refine ⟨⟨((f0.trans x1.1).trans x63.1).trans x77.1, Or.inl ⟨rfl, h77, u⟩⟩, a9, ea9, Or.inl ⟨rfl, ?_⟩⟩
      rcases iv with ⟨-, iv⟩ | ⟨iv, -⟩
      · exact iv
      · rw [y] at iv; exact absurd iv (by decide)
    obtain ⟨-, e, H, a', cd, p77, a77, aa, an, ea, d77⟩ := k77.resolve_left (fun u => y u.1)
    obtain ⟨-, L9, v1, v2, v3, v4, v5, v6, v7⟩ := iv.resolve_left (fun u => y u.1)
    clear iv
    have ea9' : a' = a9 := by rw [a77] at ea9; omega
    subst ea9'
    have eL : e = L9 := by rw [p77] at v1; omega
    subst eL
    have q8 : mI M63 q 8 = mI M q 8 := qq 8 (by decide)
    have F77 : FT M77 (q + 1) (fst9 ft (vrf W E pl (mI M q 8) (a + 1) a')) := by
      refine irv_ft (x := 0) v5 ?_
      rw [e73, q8]
      rcases n5 with u | u
      · rw [u]; simp
      · rw [u]; simp
    have wt77 : WTq M77 T A B D n W pl nq sm := wt63.fi h63.1 x77.1
    have se : s ≤ e := cd.2.2.2.2.2
    have fo : ∀ i, i < s → mI M77 O i = mI M63 O i ∧ mI M77 P i = mI M63 P i := x77.2.2.2.2.2.2
    rw [h77.1.2.1.2.1]
    refine ⟨h77.1.2.1.1, h77.1.1.2.1.1, (x_rv35 (s := e + 1) (((f0.trans x1.1).trans x63.1).trans x77.1) h77 p77 (by omega) (by omega) a77 an (by rw [d77]; exact d63) ⟨by rw [q77]; exact hn63.1, n2, by rw [(h63.1.words x77.1).1]; exact A63, by rw [q77]; exact hn63.2.2.2.1, by rw [q77]; exact hn63.2.2.2.2.1, fun u => x77.2.2.1 (hn63.2.2.2.2.2 u)⟩ (fun u => ?_) (fun _ => ⟨s, e, H, by rw [t77, if_pos rfl], cd, hLs, by omega⟩) wt77 v7).mono (fun x69 M68 u => ⟨u.1, u.2.1, u.2.2.1, u.2.2.2.1, ?_⟩)⟩
    rotate_left
    · obtain ⟨a8, j1, j2⟩ := u.2.2.2.2
      refine ⟨a8, j1, ?_⟩
      rcases j2 with j2 | ⟨j2, j3, j4, j5, j6, j7, j8⟩
      · exact Or.inl j2
      · refine Or.inr ⟨j2, by rw [j3]; exact j5, fun i hi => by rw [j6 q q01, q77]; exact qq i hi, fun j hj => ⟨by rw [j6 _ q211, t77, if_neg hj, bb _ q210 q211], by rw [j6 _ q221, t22, if_neg hj, bb _ q220 q221]⟩, fun i hi => ⟨by rw [j6 O nO1, (fo i hi).1, bb O nO0 nO1], by rw [j6 P nP1, (fo i hi).2, bb P nP0 nP1]⟩, a', e + 1, _, j3, j4, F77.same (j7 3 (by decide)) (j7 4 (by decide)), by rw [j6 p np1]; exact p77, ⟨by omega, (((x1.trans x63).less (Nat.zero_le _)).trans (x77.less (Nat.zero_le _))).trans j8⟩, Or.inr ⟨w9, by rw [j6 q q01, q77, q7]; exact ex1, E, Cf, v3, ec, rfl, s, e, by rw [j6 _ q211, t77, if_pos rfl], by rw [j6 O nO1]; exact v2, v6.cg (fun t _ _ => ⟨by rw [j6 O nO1], by rw [j6 P nP1]⟩), Nat.lt_succ_self _, by rw [j6 _ q221, t22, if_pos rfl]⟩⟩
    rw [q77] at u
    obtain ⟨u1, u2⟩ := v63 u
    exact ⟨u1.cg (by rw [t77, if_neg (by decide)]) fo (by omega), u2.cg (by rw [t77, if_neg (by decide)]) fo (by omega)⟩
end TXF
end
section
/-! The class's reader of texts, exactly: vars, the whole. -/
section TXG
variable {G : mG} {d z q w T A B D N C n p O P K Ab Be Cm V F c s s' L L' cnt Bn a d0 V1 F1 nw k b b' : Nat} {M0 M M' M1 M2 Mc : mM} {ns ns' ns1 : Nat → Int} {sf ef sf' ef' : Nat → Nat} {H : Nat → Nat} {S R : Nat → Prop} {W pl nq E : Nat → Int} {Cf : Nat → Int × Int} {sm : Nat → Nat → Prop} {nms : List nm9} {ft : Int × Int} {zz zr : List Int}
/-- a var, exactly: its first word a -/
def vaV (W pl nq : Nat → Int) (sm : Nat → Nat → Prop) (M : mM) (q p O P n c V a : Nat) (nms : List nm9) (ft : Int × Int) (x : Int) (M' : mM) : Prop := ∃ a' : Nat, mI M' (q + 1) 2 = a' ∧ ((x = 0 ∧ Rf W [50] 0 a') ∨ (x = 1 ∧ (W (a + 1) = 1 ∧ W (a + 2) = 33) ∧ mI M' q 3 = ((a + 1 : Nat) : Int) ∧ Rc W [50] 0 [50] a' ∧ ∃ (e i b : Nat) (f2 X I : Int × Int), a' = e + 1 ∧ W e = 34 ∧ (mI M' p 2 = (b : Int) ∧ txF M q p O P 0 M') ∧ (CT M (q + 1) p nms → nms.length = c → knf sm pl nms (a + 1) f2) ∧ FT M' (q + 1) (fst9 (fst9 (fst9 (fst9 ft (if V < 12 then (0, 0) else (5, pl a))) f2) X) I) ∧ ((W (a + 3) = 5 ∧ i = a + 4 ∧ mI M' q 8 = 1 ∧ X = (0, 0)) ∨ (W (a + 3) ≠ 5 ∧ mI M' q 8 = 0 ∧ ∃ (j : Nat) (E0 E1 : Nat → Int) (C0 C1 : Nat → Int × Int), Eo W 6 (a + 3) j ∧ W j = 16 ∧ Eo W 6 (j + 1) i ∧ ECq M (q + 1) p n W nq sm nms c 1 E0 C0 ∧ ECq M (q + 1) p n W nq sm nms c 1 E1 C1 ∧ X = fst9 (vrf W E0 pl 0 (a + 3) j) (vrf W E1 pl 0 (j + 1) i) ∧ rvQz W pl C0 q O P 0 (a + 3) j b M' ∧ rvQz W pl C1 q O P 1 (j + 1) i b M')) ∧ ((W i ≠ 9 ∧ i = e ∧ mI M' q 7 = 0 ∧ I = (0, 0)) ∨ (W i = 9 ∧ mI M' q 7 = 1 ∧ ∃ E Cf, Eo W 6 (i + 1) e ∧ ECq M (q + 1) p n W nq sm nms c 1 E Cf ∧ I = vrf W E pl (mI M' q 8) (i + 1) e ∧ rvQz W pl Cf q O P 2 (i + 1) e b M'))))
theorem x_TR_readVar (h : TX M z q w T A B D N C n p O P K Ab Be Cm V F ns sf ef c cnt L) (ha : mI M (q + 1) 2 = a) (han : a < n) (hs : mI M p 2 = L) (hsa : L ≤ a) (hd : mI M (q + 1) 5 = 0) (wt : WTq M T A B D n W pl nq sm) (hF : FT M (q + 1) ft) (hW : W a = 4) (hR : Rc W [50] 0 [50] a) : Ci G y_TR_readVar (d + 6) [vr q] M (fun x M' => vaQ M z q w T A B D N C n p O P K Ab Be Cm V F ns sf ef c cnt L x M' ∧ vaV W pl nq sm M q p O P n c V a nms ft x M') := by
  have ap := h.1.apart
  have qp := h.1.2.2.2.2.2.1.2.1
  have ok := h.1.1.1
  have rc1 : Rc W [50] 0 [1, 33, 53, 54, 34, 50] (a + 1) := by
    refine hR.trans (Rc.one (mst_n (by decide) (by decide) (ys := [1, 33, 53, 54, 34, 50]) (t := 1) ?_ (Or.inl (by decide))))
    rw [ex_50]
    unfold ex50
    rw [if_neg (by omega), if_neg (by omega), if_pos hW]
  have hN : n ≤ 16384 := by have := h.1.1.2.2.2.1.2.2.1; have := h.1.1.2.2.2.1.1.2.2.2.2.2.2.1; omega
  obtain ⟨⟨np0, np1, -, -⟩, ⟨nO0, nO1, -, -, -⟩, nP0, nP1, -, -, -⟩ := h.1.ne
  obtain ⟨q01, q10, q210, q211, -, -, q220, q221, -⟩ := q_ne q
  obtain ⟨t0, t1, t2, t3, t4, t5⟩ := h.1.2.1
  refine k_TR_readVar ok ?_
  rw [t1]
  refine ⟨t0, h.1.1.2.1.1, fun M3 e3 => ?_⟩
  obtain ⟨h3, x3, g3⟩ := tx_ui h (i32s (by omega) (by omega)) e3 (Or.inr (Or.inr (Or.inr (Or.inl ⟨rfl, Or.inr (Or.inr rfl)⟩))))
  have p3 : mI M3 p 2 = L := by rw [g3, if_neg (by omega)]; exact hs
  rw [h3.1.2.1.2.2.2.1, p3]
  refine ⟨h3.1.1.2.2.2.2.1.1, fun M6 e6 => ?_⟩
  obtain ⟨h6, x6, g6⟩ := tx_ui h3 ⟨by omega, by omega⟩ e6 (Or.inl rfl)
  rw [h6.1.2.1.2.2.2.1]
  refine ⟨h6.1.1.2.2.2.2.1.1, fun v10 e10 => ?_⟩
  have b10 : v10 = 0 ∨ v10 = 1 := by rw [e10]; split <;> omega
  have f6 := h6.2.1.1.1
  refine (x_TR_readName (a := a) (nms := nms) (i32s (by omega) (by omega)) h6 (by rw [g6, if_neg (by omega), g3, if_neg (by omega)]; exact ha) han ((wt.fi h.1 x3.1).fi h3.1 x6.1) (hF.same (by rw [g6, if_neg (by omega), g3, if_neg (by omega)]) (by rw [g6, if_neg (by omega), g3, if_neg (by omega)])) rc1).mono (fun x16 M15 k => ?_)
  obtain ⟨⟨h15, x15, n15, y15, k15⟩, a9, ea9, rv⟩ := k
  have wt15 : WTq M15 T A B D n W pl nq sm := ((wt.fi h.1 x3.1).fi h3.1 x6.1).fi h6.1 x15.1
  have ev10 : (if v10 = 0 then ((0 : Int), (0 : Int)) else (5, pl a)) = if V < 12 then (0, 0) else (5, pl a) := by
    rw [e10, f6]
    by_cases u : V < 12
    · rw [if_pos u, if_pos (by omega)]
    · rw [if_neg u, if_neg (by omega)]
  rw [ev10] at rv
  have i16 : i32 x16 := by rcases k15 with u | u <;> rw [u.1] <;> exact i32s (by omega) (by omega)
  refine ⟨i16, h15.1.1.1, fun y => ?_, fun y => ?_⟩
  · obtain ⟨-, u⟩ := k15.resolve_right (fun u => by have := u.1; omega)
    refine ⟨⟨(x3.1.trans x6.1).trans x15.1, Or.inl ⟨rfl, h15, u⟩⟩, a9, ea9, Or.inl ⟨rfl, ?_⟩⟩
    rcases rv with ⟨-, rv⟩ | ⟨rv, -⟩
    · exact rv
    · rw [y] at rv; exact absurd rv (by decide)
  obtain ⟨-, a15, a2n, q15, A15⟩ := k15.resolve_left (fun u => y u.1)
  clear k15
  obtain ⟨-, ea2, w1, rc2, f2, F15, kn⟩ := rv.resolve_left (fun u => y u.1)
  clear rv
  have kn : CT M (q + 1) p nms → nms.length = c → knf sm pl nms (a + 1) f2 := fun ct hl => kn ((ct.tx x3.2).tx x6.2) hl
  generalize ef5 : fst9 (fst9 ft (if V < 12 then (0, 0) else (5, pl a))) f2 = ft2 at F15
  rw [h15.1.2.1.2.1]
  refine ⟨h15.1.2.1.1, h15.1.1.2.1.1, (x_tx_accept (x := 34) (i32s (by omega) (by omega)) (by omega) h15 a15 a2n).mono (fun x23 M22 k => ?_)⟩
  obtain ⟨i23, o22, -, h22, x22, k22, r22, b22, m22⟩ := k
  refine ⟨i23, o22, fun y => ?_, fun y => ?_⟩
  · have e := (k22.resolve_left (fun u => by have := u.1; omega)).2
    rw [e]
    exact ⟨⟨(x3.1.trans x6.1).trans x15.1, Or.inl ⟨rfl, h15, _, a15, a2n⟩⟩, a + 2, a15, Or.inl ⟨rfl, rf_t rc2 (fun u => m22 y ((wt15.is a2n (by decide) (by decide)).mpr u)) (by decide)⟩⟩
  obtain ⟨-, eA, a22, a3n⟩ := k22.resolve_right (fun u => y u.1)
  clear k22
  have w33 : W (a + 2) = 33 := (wt15.is a2n (by decide) (by decide)).mp eA
  have rc3 := rc_t rc2 w33 (by decide)
  have wt22 : WTq M22 T A B D n W pl nq sm := wt15.fi h15.1 x22.1
  rw [h22.1.2.1.2.1]
  refine ⟨h22.1.2.1.1, h22.1.1.2.1.1, (x_tx_accept (x := 6) (i32s (by omega) (by omega)) (by omega) h22 a22 (by omega)).mono (fun x30 M29 k => ?_)⟩
  obtain ⟨i30, o29, hx30, h29, x29, k29, r29, b29, m29⟩ := k
  refine ⟨i30, o29, h29.1.2.1.1, hx30, fun M34 e34 => ?_⟩
  obtain ⟨h34, x34, g34⟩ := tx_ui h29 i30 e34 (Or.inl rfl)
  have gg : ∀ b, b ≠ q → mI M34 b = mI M29 b := fun b hb => by
    funext i
    rw [g34, if_neg (by omega)]
  have q34 : ∀ i, i ≠ 8 → mI M34 q i = mI M15 q i := fun i hi => by rw [g34, if_neg (fun u => hi u.2), b29 q (by omega), b22 q (by omega)]
  have r34 : ∀ i, i ≠ 2 → mI M34 (q + 1) i = mI M15 (q + 1) i := fun i hi => by rw [gg _ (by omega), r29 i hi, r22 i hi]
  have c34 : mI M34 (q + 1) 6 ≠ 0 := by rw [r34 6 (by decide), n15.1 6 (by decide) (by decide) (by decide), g6, if_neg (by omega), g3, if_pos ⟨rfl, rfl⟩]; omega
  have d34 : mI M34 (q + 1) 5 = 0 := by rw [r34 5 (by decide), n15.1 5 (by decide) (by decide) (by decide), g6, if_neg (by omega), g3, if_neg (by omega)]; exact hd
  have p34 : mI M34 p 2 = ((L : Nat) : Int) := by rw [gg p (by omega), b29 p (by omega), b22 p (by omega), n15.2.2 p (by omega) (by omega), g6, if_neg (by omega)]; exact p3
  have hn : mI M34 q 3 = ((a + 1 : Nat) : Int) ∧ a + 1 < n ∧ mI M34 A (a + 1) = 2 ∧ mI M34 q 4 = ((L : Nat) : Int) ∧ (mI M34 q 8 = 0 ∨ mI M34 q 8 = 1) ∧ (12 ≤ V → mI M34 (q + 1) 3 ≠ 0) := by
    refine ⟨by rw [q34 3 (by decide)]; exact q15, by omega, ?_, by rw [q34 4 (by decide), n15.2.1 4 (by decide), g6, if_pos ⟨rfl, rfl⟩], by rw [g34, if_pos ⟨rfl, rfl⟩]; exact hx30, fun y => ?_⟩
    · rw [(h29.1.words x34.1).1, (h22.1.words x29.1).1, (h15.1.words x22.1).1]
      exact A15
    · rw [r34 3 (by decide)]
      exact y15 (by rw [e10, if_neg (by omega)]; omega)
  have f34 : FI (txS q p O P) M M34 := ((((x3.1.trans x6.1).trans x15.1).trans x22.1).trans x29.1).trans x34.1
  have wt34 : WTq M34 T A B D n W pl nq sm := (wt22.fi h22.1 x29.1).fi h29.1 x34.1
  have F34 : FT M34 (q + 1) ft2 := F15.same (r34 3 (by decide)) (r34 4 (by decide))
  have c34' : mI M34 (q + 1) 6 = 1 := by rw [r34 6 (by decide), n15.1 6 (by decide) (by decide) (by decide), g6, if_neg (by omega), g3, if_pos ⟨rfl, rfl⟩]
  have toM : ∀ {E : Nat → Int} {Cf : Nat → Int × Int}, ECq M34 (q + 1) p n W nq sm nms c 1 E Cf → ECq M (q + 1) p n W nq sm nms c 1 E Cf := fun k => (((((k.to x34.2).to x29.2).to x22.2).to x15.2).to x6.2).to x3.2
  have t34 : txF M q p O P 0 M34 := (((((x3.trans x6).trans x15).trans x22).trans x29).trans x34).less (Nat.zero_le _)
  have q83 : mI M34 q 8 = x30 := by rw [g34, if_pos ⟨rfl, rfl⟩]
  refine ⟨fun y8 => ?_, fun y8 => ?_⟩
  · -- numbers
    have e0 : x30 = 0 := by rw [g34, if_pos ⟨rfl, rfl⟩] at y8; exact y8
    have e29 := (k29.resolve_left (fun u => by have := u.1; omega)).2
    have a34 : mI M34 (q + 1) 2 = ((a + 2 + 1 : Nat) : Int) := by rw [gg _ (by omega), e29]; exact a22
    have n5 : W (a + 3) ≠ 5 := fun u => m29 e0 ((wt22.is (show a + 2 + 1 ≤ n by omega) (by decide) (by decide)).mpr u)
    have rc4 : Rc W [50] 0 [61, 16, 61, 54, 34, 50] (a + 3) := rc3.trans (Rc.one (mst_n (by decide) (by decide) (ys := [61, 16, 61]) (t := 0) (by show ex53 (W (a + 3)) = _; unfold ex53; rw [if_neg n5]) (Or.inl (by decide))))
    refine (x_TR_readItemRule (k := 0) (d0 := 0) (nms := nms) (ft := ft2) (zz := [16, 61, 54, 34, 50]) (by omega) (i32s (by omega) (by omega)) h34 a34 (by omega) p34 (Nat.le_refl _) (by omega) d34 (by omega) (h34.2.1.2.2.1.nkc c34) wt34 F34 (by rw [d34]; rfl) (hz_t (by decide)) rc4).mono (fun x39 M38 k => ?_)
    obtain ⟨⟨h38, x38, ⟨c38, q38, t38⟩, k38⟩, t22A, E0, C0, ec0, a98, ea98, iv0⟩ := k
    rw [c34'] at ec0
    have ec0 := toM ec0
    have wt38 : WTq M38 T A B D n W pl nq sm := wt34.fi h34.1 x38.1
    have i39 : i32 x39 := by rcases k38 with u | u <;> rw [u.1] <;> exact i32s (by omega) (by omega)
    refine ⟨i39, h38.1.1.1, fun y => ?_, fun y => ?_⟩
    · obtain ⟨-, u⟩ := k38.resolve_right (fun u => by have := u.1; omega)
      refine ⟨⟨f34.trans x38.1, Or.inl ⟨rfl, h38, u⟩⟩, a98, ea98, Or.inl ⟨rfl, ?_⟩⟩
      rcases iv0 with ⟨-, iv⟩ | ⟨iv, -⟩
      · exact iv
      · rw [y] at iv; exact absurd iv (by decide)
    obtain ⟨-, eA, HA, aA, cdA, p38, a38, aa38, an38, ea38, d38⟩ := k38.resolve_left (fun u => y u.1)
    clear k38
    obtain ⟨-, L0, v1, v2, v3, v4, v5, v6, v7⟩ := iv0.resolve_left (fun u => y u.1)
    clear iv0
    have eaA : aA = a98 := by rw [a38] at ea98; omega
    subst eaA
    have eLA : eA = L0 := by rw [p38] at v1; omega
    subst eLA
    have F38 : FT M38 (q + 1) (fst9 ft2 (vrf W E0 pl 0 (a + 3) aA)) := irv_ft (x := 0) v5 (by simp)
    have seA : L ≤ eA := cdA.2.2.2.2.2
    rw [h38.1.2.1.2.1]
    refine ⟨h38.1.2.1.1, h38.1.1.2.1.1, (x_tx_accept (x := 17) (i32s (by omega) (by omega)) (by omega) h38 a38 an38).mono (fun x46 M45 k => ?_)⟩
    obtain ⟨i46, o45, -, h45, x45, k45, r45, b45, m45⟩ := k
    refine ⟨i46, o45, fun y => ?_, fun y => ?_⟩
    · have e := (k45.resolve_left (fun u => by have := u.1; omega)).2
      rw [e]
      exact ⟨⟨f34.trans x38.1, Or.inl ⟨rfl, h38, _, a38, an38⟩⟩, aA, a38, Or.inl ⟨rfl, rf_t v7 (fun u => m45 y ((wt38.is an38 (by decide) (by decide)).mpr u)) (by decide)⟩⟩
    obtain ⟨-, eA16, a45, an45⟩ := k45.resolve_right (fun u => y u.1)
    clear k45
    have w16 : W aA = 16 := (wt38.is an38 (by decide) (by decide)).mp eA16
    have rc5 := rc_t v7 w16 (by decide)
    have wt45 : WTq M45 T A B D n W pl nq sm := wt38.fi h38.1 x45.1
    have F45 : FT M45 (q + 1) (fst9 ft2 (vrf W E0 pl 0 (a + 3) aA)) := F38.same (r45 3 (by decide)) (r45 4 (by decide))
    have c45' : mI M45 (q + 1) 6 = 1 := by rw [r45 6 (by decide), c38]; exact c34'
    have c45 : mI M45 (q + 1) 6 ≠ 0 := by rw [r45 6 (by decide), c38]; exact c34
    have d45 : mI M45 (q + 1) 5 = 0 := by rw [r45 5 (by decide), d38]; exact d34
    have p45 : mI M45 p 2 = ((eA + 1 : Nat) : Int) := by rw [b45 p np1]; exact p38
    refine ⟨h45.1.2.1.1, (x_TR_readItemRule (k := 1) (d0 := 0) (nms := nms) (ft := fst9 ft2 (vrf W E0 pl 0 (a + 3) aA)) (zz := [54, 34, 50]) (by omega) (i32s (by omega) (by omega)) h45 a45 (by omega) p45 (by omega) (by omega) d45 (by omega) (h45.2.1.2.2.1.nkc c45) wt45 F45 (by rw [d45]; rfl) hz54 rc5).mono (fun x52 M51 k => ?_)⟩
    obtain ⟨⟨h51, x51, ⟨c51, q51, t51⟩, k51⟩, t22B, E1, C1, ec1, a99, ea99, iv1⟩ := k
    rw [c45'] at ec1
    have ec1 := toM ((ec1.to x45.2).to x38.2)
    have wt51 : WTq M51 T A B D n W pl nq sm := wt45.fi h45.1 x51.1
    have i52 : i32 x52 := by rcases k51 with u | u <;> rw [u.1] <;> exact i32s (by omega) (by omega)
    refine ⟨i52, h51.1.1.1, fun y => ?_, fun y => ?_⟩
    · obtain ⟨-, u⟩ := k51.resolve_right (fun u => by have := u.1; omega)
      refine ⟨⟨((f34.trans x38.1).trans x45.1).trans x51.1, Or.inl ⟨rfl, h51, u⟩⟩, a99, ea99, Or.inl ⟨rfl, ?_⟩⟩
      rcases iv1 with ⟨-, iv⟩ | ⟨iv, -⟩
      · exact iv
      · rw [y] at iv; exact absurd iv (by decide)
    obtain ⟨-, eB, HB, aB, cdB, p51, a51, aa51, an51, ea51, d51⟩ := k51.resolve_left (fun u => y u.1)
    clear k51
    obtain ⟨-, L1, z1, z2, z3, z4, z5, z6, z7⟩ := iv1.resolve_left (fun u => y u.1)
    clear iv1
    have eaB : aB = a99 := by rw [a51] at ea99; omega
    subst eaB
    have eLB : eB = L1 := by rw [p51] at z1; omega
    subst eLB
    have F51 : FT M51 (q + 1) (fst9 (fst9 ft2 (vrf W E0 pl 0 (a + 3) aA)) (vrf W E1 pl 0 (aA + 1) aB)) := irv_ft (x := 0) z5 (by simp)
    rw [fst9_as] at F51
    have rq1 : rvQz W pl C1 q O P 1 (aA + 1) aB (eB + 1) M51 := ⟨eA + 1, eB, by rw [t51, if_pos rfl], z2, z6, Nat.lt_succ_self _, by rw [t22B, if_pos rfl]⟩
    have rq0 : rvQz W pl C0 q O P 0 (a + 3) aA (eB + 1) M51 := ⟨L, eA, by rw [t51, if_neg (by decide), b45 _ q211, t38, if_pos rfl], by rw [(x51.2.2.2.2.2.2 eA (Nat.lt_succ_self _)).1, b45 O nO1]; exact v2, v6.cg (fun t _ t2 => ⟨by rw [(x51.2.2.2.2.2.2 t (Nat.lt_succ_of_lt t2)).1, b45 O nO1], by rw [(x51.2.2.2.2.2.2 t (Nat.lt_succ_of_lt t2)).2, b45 P nP1]⟩), by have := cdB.2.2.2.2.2; omega, by rw [t22B, if_neg (by decide), b45 _ q221, t22A, if_pos rfl]⟩
    have seB : eA + 1 ≤ eB := cdB.2.2.2.2.2
    have q51' : mI M51 q = mI M34 q := by rw [q51, b45 q q01, q38]
    rw [h51.1.2.1.2.1]
    refine ⟨h51.1.2.1.1, h51.1.1.2.1.1, (x_rv10 (s := eB + 1) (nms := nms) (((f34.trans x38.1).trans x45.1).trans x51.1) h51 p51 (by omega) (by omega) a51 an51 (by rw [d51]; exact d45) (by rw [c51]; exact c45') ⟨by rw [q51']; exact hn.1, hn.2.1, ?_, by rw [q51']; exact hn.2.2.2.1, by rw [q51']; exact hn.2.2.2.2.1, fun u => x51.2.2.1 (x45.2.2.1 (x38.2.2.1 (hn.2.2.2.2.2 u)))⟩ (fun _ => ⟨⟨L, eA, HA, ?_, ?_, Nat.le_refl _, by omega⟩, ⟨eA + 1, eB, HB, by rw [t51, if_pos rfl], cdB, by omega, by omega⟩⟩) wt51 F51 z7).mono (fun x59 M58 u => ⟨u.1, u.2.1, u.2.2.1, u.2.2.2.1, fun M63 e63 => ?_⟩)⟩
    rotate_left 3
    · have up : ∀ {x : Int} {M9 : mM}, inV W pl nq sm q p O P n c aB (eB + 1) nms (fst9 ft2 (fst9 (vrf W E0 pl 0 (a + 3) aA) (vrf W E1 pl 0 (aA + 1) aB))) M51 x M9 → vaV W pl nq sm M q p O P n c V a nms ft x M9 := fun {x M9} hv => by
        obtain ⟨a', g1, hv⟩ := hv
        refine ⟨a', g1, ?_⟩
        rcases hv with hv | ⟨hx, g2, g3, g4, g5, e, b9, I, g6, g7, g8, g9, ⟨g10, g12⟩, g11⟩
        · exact Or.inl hv
        · have q8 : mI M9 q 8 = 0 := by rw [g3 8 (by decide), q51']; exact y8
          refine Or.inr ⟨hx, ⟨w1, w33⟩, by rw [g3 3 (by decide), q51']; exact hn.1, g2, e, aB, b9, f2, _, I, g6, g7, ⟨g9, (((t34.trans (x38.less (Nat.zero_le _))).trans (x45.less (Nat.zero_le _))).trans (x51.less (Nat.zero_le _))).trans g12⟩, kn, by rw [ef5]; exact g8, Or.inr ⟨n5, q8, aA, E0, E1, C0, C1, v3, w16, z3, ec0, ec1, rfl, rq0.cg (g4 0 (by decide)).1 (g4 0 (by decide)).2 g5 g10, rq1.cg (g4 1 (by decide)).1 (g4 1 (by decide)).2 g5 g10⟩, ?_⟩
          rcases g11 with g11 | ⟨j1, j2, E2, C2, j3, j4, j5, j6⟩
          · exact Or.inl g11
          · refine Or.inr ⟨j1, j2, E2, C2, j3, toM (((j4.to x51.2).to x45.2).to x38.2), ?_, j6⟩
            rw [j5, q51', q8]
            show vrf W E2 pl (mI M34 q 8) (aB + 1) e = _
            rw [y8]
      obtain ⟨s1, s2⟩ := u.2.2.2.2 M63 e63
      refine ⟨fun yy => ?_, fun yy v73 e73 => ?_⟩
      · obtain ⟨r1, r2⟩ := s1 yy
        exact ⟨r1, r2.mono (fun x69 M68 v => ⟨v.1, v.2.1, v.2.2.1, v.2.2.2.1, up v.2.2.2.2⟩)⟩
      · refine (s2 yy v73 e73).mono (fun x78 M77 v => ⟨v.1, v.2.1, fun y9 => ?_, fun y9 => ?_⟩)
        · obtain ⟨r1, r2⟩ := v.2.2.1 y9
          exact ⟨r1, up r2⟩
        · obtain ⟨r1, r2, r3⟩ := v.2.2.2 y9
          exact ⟨r1, r2, r3.mono (fun x84 M83 t => ⟨t.1, t.2.1, t.2.2.1, t.2.2.2.1, up t.2.2.2.2⟩)⟩
    · rw [(h45.1.words x51.1).1, (h38.1.words x45.1).1, (h34.1.words x38.1).1]
      exact hn.2.2.1
    · rw [t51, if_neg (by decide), b45 _ q211, t38, if_pos rfl]
    · exact cdA.cg (fun i hi => by rw [(x51.2.2.2.2.2.2 i (by omega)).1, b45 O nO1]) (fun i hi => by rw [(x51.2.2.2.2.2.2 i (by omega)).2, b45 P nP1])
  · have e0 : x30 ≠ 0 := fun u => y8 (by rw [g34, if_pos ⟨rfl, rfl⟩]; exact u)
    obtain ⟨x301, eA5, a29, an29⟩ := k29.resolve_right (fun u => e0 u.1)
    have w5 : W (a + 3) = 5 := (wt22.is (show a + 2 + 1 ≤ n by omega) (by decide) (by decide)).mp eA5
    have rc4 : Rc W [50] 0 [54, 34, 50] (a + 4) := rc3.trans (Rc.one (mst_n (by decide) (by decide) (ys := []) (t := 1) (by show ex53 (W (a + 3)) = _; unfold ex53; rw [if_pos w5]) (Or.inl (by decide))))
    have a34 : mI M34 (q + 1) 2 = ((a + 2 + 1 + 1 : Nat) : Int) := by rw [gg _ (by omega)]; exact a29
    rw [h34.1.2.1.2.1]
    refine ⟨h34.1.1.2.1.1, (x_rv10 (s := L) (nms := nms) f34 h34 p34 (Nat.le_refl _) (by omega) a34 (by omega) d34 c34' hn (fun u => absurd u y8) wt34 F34 rc4).mono (fun x59 M58 u => ⟨u.1, u.2.1, u.2.2.1, u.2.2.2.1, fun M63 e63 => ?_⟩)⟩
    have up : ∀ {x : Int} {M9 : mM}, inV W pl nq sm q p O P n c (a + 2 + 1 + 1) L nms ft2 M34 x M9 → vaV W pl nq sm M q p O P n c V a nms ft x M9 := fun {x M9} hv => by
      obtain ⟨a', g1, hv⟩ := hv
      refine ⟨a', g1, ?_⟩
      rcases hv with hv | ⟨hx, g2, g3, g4, g5, e, b9, I, g6, g7, g8, g9, ⟨g10, g12⟩, g11⟩
      · exact Or.inl hv
      · have q8 : mI M9 q 8 = 1 := by rw [g3 8 (by decide), q83]; exact x301
        refine Or.inr ⟨hx, ⟨w1, w33⟩, by rw [g3 3 (by decide)]; exact hn.1, g2, e, a + 4, b9, f2, (0, 0), I, g6, g7, ⟨g9, t34.trans g12⟩, kn, ?_, Or.inl ⟨w5, rfl, q8, rfl⟩, ?_⟩
        · rw [ef5, fst9_as]
          exact g8
        · rcases g11 with g11 | ⟨j1, j2, E2, C2, j3, j4, j5, j6⟩
          · exact Or.inl g11
          · refine Or.inr ⟨j1, j2, E2, C2, j3, toM j4, ?_, j6⟩
            rw [j5, q83, q8, x301]
    obtain ⟨s1, s2⟩ := u.2.2.2.2 M63 e63
    refine ⟨fun yy => ?_, fun yy v73 e73 => ?_⟩
    · obtain ⟨r1, r2⟩ := s1 yy
      exact ⟨r1, r2.mono (fun x69 M68 v => ⟨v.1, v.2.1, v.2.2.1, v.2.2.2.1, up v.2.2.2.2⟩)⟩
    · refine (s2 yy v73 e73).mono (fun x78 M77 v => ⟨v.1, v.2.1, fun y9 => ?_, fun y9 => ?_⟩)
      · obtain ⟨r1, r2⟩ := v.2.2.1 y9
        exact ⟨r1, up r2⟩
      · obtain ⟨r1, r2, r3⟩ := v.2.2.2 y9
        exact ⟨r1, r2, r3.mono (fun x84 M83 t => ⟨t.1, t.2.1, t.2.2.1, t.2.2.2.1, up t.2.2.2.2⟩)⟩
end TXG
end
section
/-! The class's reader of texts, exactly: worksOut. -/
section TXH
variable {G : mG} {d z q w T A B D N C n p O P K Ab Be Cm V F c s s' L L' cnt Bn a d0 V1 F1 nw k e s9 : Nat} {M0 M M' M1 M2 : mM} {ns ns' ns1 : Nat → Int} {sf ef sf' ef' : Nat → Nat} {H : Nat → Nat} {S R : Nat → Prop} {W pl nq E : Nat → Int} {Cf : Nat → Int × Int} {cv : Nat → vrs} {sm : Nat → Nat → Prop} {nms : List nm9} {ft : Int × Int}
/-- the fault of a value, which must be whole if l2 is not 0 -/
def wuf (l2 : Int) (v : vrs) (pp : Int) : Int × Int := if l2 = 0 then (if v.1 ≠ 0 then (v.1, v.2.1) else (0, 0)) else wh9 v pp
/-- working out a rule, exactly -/
def wuV (q : Nat) (l2 : Int) (v : vrs) (pp : Int) (x : Int) (M' : mM) : Prop := (x = 0 ∧ (wuf l2 v pp).1 ≠ 0 ∧ FT M' (q + 1) (wuf l2 v pp)) ∨ (x = 1 ∧ (wuf l2 v pp).1 = 0 ∧ v.1 = 0 ∧ FT M' (q + 1) (0, 0) ∧ ptq M' (q + 11) 0 v.2.1 v.2.2)
/-- what else stays -/
def wkK (q p : Nat) (M M' : mM) : Prop := mI M' (q + 22) = mI M (q + 22) ∧ mI M' (p + 6) = mI M (p + 6) ∧ mI M' (p + 7) = mI M (p + 7)
theorem x_TR_worksOut {l2 : Int} {x y : Nat} (hF : FMx G) (hk : k < 3) (i2 : i32 l2) (h : TX M z q w T A B D N C n p O P K Ab Be Cm V F ns sf ef c cnt L) (h0 : mI M (q + 1) 3 = 0) (hr : mI M (q + 21) k = ((s : Nat) : Int)) (hp2 : mI M p 2 = ((s9 : Nat) : Int)) (hs9 : s9 ≤ n) (hlf : ∀ k, (W k = 1 ∨ W k = 2 ∨ W k = 12 ∨ W k = 13) → (W k = 1 → E k ≠ -1) → Lfo M p W E cv Cf k) (eo : Eo W 6 x y) (hfl : (fl W E pl 0 x y).1 = 0) (hc : Cd W Cf pl (mI M O) (mI M P) 0 0 0 x y s e) (he9 : e < s9) (oe : mI M O e = 0) (h22 : l2 ≠ 0 → mI M (q + 22) k = pl x) : Ci G y_TR_worksOut (d + 5) [vr q, vi k, vi l2] M (fun r M' => wuQ M z q w T A B D N C n p O P K Ab Be Cm V F ns sf ef c cnt L r M' ∧ wuV q l2 (vlq W cv pl 0 0 x y) (pl x) r M' ∧ (∀ nms, CT M (q + 1) p nms → CT M' (q + 1) p nms) ∧ wkK q p M M') := by
  have ap := h.1.apart
  have qp := h.1.2.2.2.2.2.1.2.1
  have ok := h.1.1.1
  have hK := h.1.1.2.2.2.2.2.2
  have hN : n ≤ 16384 := by have := h.1.1.2.2.2.1.2.2.1; have := h.1.1.2.2.2.1.1.2.2.2.2.2.2.1; omega
  obtain ⟨t0, t1, t2, t3, t4, t5⟩ := h.1.2.1
  obtain ⟨s1, s2, s3, s4⟩ := h.1.2.2.1
  have lse := hc.lt
  generalize hv : vlq W cv pl 0 0 x y = v
  refine k_TR_worksOut ok (i32s (by omega) (by omega)) i2 ?_
  rw [t2, t4, s3, Int.toNat_natCast, hr]
  refine ⟨t0, s1, by omega, h.1.2.2.2.1.1, (x_Ma_run (X := fun _ => False) hF ok h.1.2.2.2.1 (fun x hx => hx.elim) ⟨h.1.1.2.2.2.2.1, h.1.2.2.2.2.1, ap.1, hp2, by omega, by omega⟩ hlf eo hfl hc he9 oe).mono (fun x6 M5 k5 => ?_)⟩
  obtain ⟨k5, rx⟩ := k5
  rw [hv] at rx
  obtain ⟨-, k5⟩ := k5
  have i6 : i32 x6 := by rcases k5 with u | u <;> rw [u.1] <;> exact i32s (by omega) (by omega)
  obtain ⟨Ab', Be', Cm', h5, ⟨m1, m2, m3⟩, hb5, q0, q1, q21, q22, qp5, qO, qP, qA⟩ : ∃ Ab' Be' Cm', TX M5 z q w T A B D N C n p O P K Ab' Be' Cm' V F ns sf ef c cnt L ∧ maF M q Ab Be Cm M5 Ab' Be' Cm' ∧ (¬ (x6 = 0) → 1 ≤ mI M5 Be' 0 ∧ mI M5 Be' 0 < 1000000000) ∧ (mI M5 q = mI M q ∧ mI M5 (q + 1) = mI M (q + 1) ∧ mI M5 (q + 21) = mI M (q + 21) ∧ mI M5 (q + 22) = mI M (q + 22) ∧ mI M5 p = mI M p ∧ mI M5 O = mI M O ∧ mI M5 P = mI M P ∧ mI M5 A = mI M A) := by
    rcases k5 with ⟨e1, -, t, cc, hM⟩ | ⟨e1, hM⟩
    · obtain ⟨Ab', Be', Cm', v1, v2, v3, v4⟩ := h.ma hM
      exact ⟨Ab', Be', Cm', v1, v2, fun y => absurd e1 y, v4⟩
    · obtain ⟨Ab', Be', Cm', v1, v2, v3, v4⟩ := h.ma hM
      exact ⟨Ab', Be', Cm', v1, v2, fun _ => v3 0 (by omega), v4⟩
  have m1' : FA (fun x => x = q + 1 ∨ mcS (q + 11) Ab Be x) (fun x => x = q + 11) M M5 := m1.mono (fun _ _ y => Or.inr y) (fun _ _ y => y)
  have ct5 : ∀ nms, CT M (q + 1) p nms → CT M5 (q + 1) p nms := fun nms ct => by
    obtain ⟨s1', -, -, s4', -⟩ := h.1.mst m1
    exact ct.cg (by rw [q1]) (by rw [show q + 1 + 6 = q + 7 by omega]; exact (s1' 7 (by omega)).2.2.2) (by rw [show q + 1 + 7 = q + 8 by omega]; exact (s1' 8 (by omega)).2.2.2) (by rw [show q + 1 + 8 = q + 9 by omega]; exact (s1' 9 (by omega)).2.2.2) (by rw [show q + 1 + 9 = q + 10 by omega]; exact (s1' 10 (by omega)).2.2.2) (s4' 6 (by omega)).2.2.2 (s4' 7 (by omega)).2.2.2
  have kk5 : wkK q p M M5 := by
    obtain ⟨-, -, s3', s4', -⟩ := h.1.mst m1
    exact ⟨s3'.2.2.2, (s4' 6 (by omega)).2.2.2, (s4' 7 (by omega)).2.2.2⟩
  have F5 : FT M5 (q + 1) (0, 0) := ⟨by rw [q1]; exact h0, fun u => absurd rfl u⟩
  have nt : ∀ {y zz : Int}, y ≠ 0 → i32 y → i32 zz → Cv G y_RR_note (d + 4) [vr (q + 1), vi y, vi zz] M5 (fun M19 => mOk M19 ∧ wuQ M z q w T A B D N C n p O P K Ab Be Cm V F ns sf ef c cnt L 0 M19 ∧ FT M19 (q + 1) (y, zz) ∧ (∀ nms, CT M (q + 1) p nms → CT M19 (q + 1) p nms) ∧ wkK q p M M19) := fun {y zz} y0 iy iz => (x_tx_note iy y0 iz h5).mono (fun M19 kk => by
    obtain ⟨o19, h19, x19, -, u4, u5, u6⟩ := kk
    have ap5 := h5.1.apart
    refine ⟨o19, ⟨Ab', Be', Cm', h19, ?_, m2, ?_, ⟨by rw [u5 q (by omega)]; exact q0, fun i i3 i4 => by rw [u4 i i3 i4, q1], by rw [u5 _ (by omega)]; exact q21, by rw [u5 p (by omega)]; exact qp5, by rw [u5 O (by omega)]; exact qO, by rw [u5 P (by omega)]; exact qP, by rw [(h5.1.words x19.1).1]; exact qA⟩, Or.inl rfl⟩, u6 (0, 0) F5, fun nms ct => (ct5 nms ct).tx x19.2, by rw [u5 _ (by omega)]; exact kk5.1, by rw [u5 _ (by omega)]; exact kk5.2.1, by rw [u5 _ (by omega)]; exact kk5.2.2⟩
    · have f19 : FA (fun x => x = q + 1) (fun _ => False) M5 M19 := ⟨⟨by rw [x19.1.2.2.2.2.1]; exact Nat.le_refl _, by rw [x19.1.2.2.2.2.2.1]; exact Nat.le_refl _⟩, fun x _ => ⟨by rw [x19.1.1], by rw [x19.1.2.1], by rw [x19.1.2.2.2.1], fun _ => by rw [x19.1.2.2.1], fun y => u5 x y⟩⟩
      exact m1'.trans2 f19 (fun x _ y => Or.inl y) (fun _ _ y => y.elim)
    · rw [x19.1.2.2.2.2.1, x19.1.2.2.2.2.2.1]
      exact m3)
  have k5m := h5.1.2.2.2.1
  obtain ⟨r0, r1, r2, r3, r4, r5⟩ := h5.1.2.1
  have rB : mR M5 (q + 11) 7 = Be' := k5m.2.1.2.2.2.1
  rw [r1, r2, r5, rB]
  have vx : (x6 = 0 ∧ v.1 ≠ 0 ∧ mI M5 (q + 11) 1 = v.1 ∧ mI M5 (q + 11) 2 = v.2.1) ∨ (x6 = 1 ∧ v.1 = 0 ∧ ptq M5 (q + 11) 0 v.2.1 v.2.2) := rx
  have bB : v.1 = 0 → x6 = 1 → mI M5 Be' 0 = v.2.2 := fun u1 u2 => by
    rcases vx with w | w
    · exact absurd (w.1.symm.trans u2) (by decide)
    · rw [← rB]; exact w.2.2.2
  refine ⟨i6, h5.1.1.1, fun y => ⟨r0, k5m.1, h5.1.1.2.1.1, ?_⟩, fun y => ⟨fun _ => ⟨r0, k5m.1, k5m.2.2.1.2.2.2.1, ⟨by omega, ?_⟩⟩, fun y2 => ?_, fun y2 => ⟨r0, h5.1.2.2.1.2.1, ⟨by omega, by rw [h5.1.2.2.1.2.2.2]; omega⟩, h5.1.1.2.1.1, ?_⟩⟩⟩
  · obtain ⟨-, u1, u2, u3⟩ := vx.resolve_right (fun u => by rw [y] at u; exact absurd u.1 (by decide))
    have ew : wuf l2 v (pl x) = (v.1, v.2.1) := by
      unfold wuf wh9
      rw [if_pos u1, if_pos u1]
      split <;> rfl
    refine (nt (by rw [u2]; exact u1) (h5.1.1.1 _ _).1 (h5.1.1.1 _ _).1).mono (fun M19 t => ⟨t.1, t.2.1, Or.inl ⟨rfl, ?_, ?_⟩, t.2.2.2⟩)
    · rw [ew]; exact u1
    · rw [ew, ← u2, ← u3]; exact t.2.2.1
  · have := k5m.2.2.2.1.2.2.1
    have := k5m.2.2.2.2.2.2.2
    omega
  · have x1 : x6 = 1 := by rcases vx with u | u <;> omega
    obtain ⟨-, u1, u2⟩ := vx.resolve_left (fun u => y u.1)
    have ew : wuf l2 v (pl x) = (0, 0) := by
      unfold wuf wh9
      by_cases l0 : l2 = 0
      · rw [if_pos l0, if_neg (fun z => z u1)]
      · have b1 := y2.resolve_left l0
        rw [bB u1 x1] at b1
        rw [if_neg l0, if_neg (fun z => z u1), if_neg (fun z => z b1)]
    exact ⟨⟨Ab', Be', Cm', h5, m1', m2, m3, ⟨q0, fun i _ _ => by rw [q1], q21, qp5, qO, qP, qA⟩, Or.inr ⟨rfl, by rw [q1]; exact h0, hb5 y⟩⟩, Or.inr ⟨rfl, by rw [ew], u1, F5, u2⟩, ct5, kk5⟩
  · have x1 : x6 = 1 := by rcases vx with u | u <;> omega
    obtain ⟨-, u1, u2⟩ := vx.resolve_left (fun u => y u.1)
    have l0 : ¬ l2 = 0 := fun z => y2 (Or.inl z)
    have b1 : v.2.2 ≠ 1 := fun z => y2 (Or.inr (by rw [bB u1 x1]; exact z))
    have ew : wuf l2 v (pl x) = (8, pl x) := by
      unfold wuf wh9
      rw [if_neg l0, if_neg (fun z => z u1), if_pos b1]
    have e22 : mI M5 (q + 22) k = pl x := by rw [q22]; exact h22 l0
    rw [e22]
    refine (nt (by decide) (i32s (by omega) (by omega)) (by rw [← e22]; exact (h5.1.1.1 _ _).1)).mono (fun M19 t => ⟨t.1, t.2.1, Or.inl ⟨rfl, by rw [ew]; simp, by rw [ew]; exact t.2.2.1⟩, t.2.2.2⟩)
end TXH
end
section
/-! The class's reader of texts, exactly: one name more. -/
section TXI
variable {G : mG} {d z r q w T A B D N C n p O P K k a a' s L L1 V F d0 c Ab Be Cm cnt nw Ab0 Be0 Cm0 : Nat} {M0 M M' M1 M2 : mM} {H H1 : Nat → Nat} {ns : Nat → Int} {sf ef : Nat → Nat} {wt : Int} {nms : List nm9}
/-- a name is put down at c -/
def knX (M : mM) (r c v : Nat) (l2 l3 l4 : Int) (M' : mM) : Prop := mI M' r 19 = ((c + 1 : Nat) : Int) ∧ (∀ i, mI M' (r + 6) i = if i = c then (v : Int) else mI M (r + 6) i) ∧ (∀ i, mI M' (r + 7) i = if i = c then l2 else mI M (r + 7) i) ∧ (∀ i, mI M' (r + 8) i = if i = c then l3 else mI M (r + 8) i) ∧ ∀ i, mI M' (r + 9) i = if i = c then l4 else mI M (r + 9) i
theorem x_RR_know {v : Nat} {l2 l3 l4 : Int} (h : RB M z r w T A B D N C n p O P K) (nk : TN M r A n V F ns c) (hv : v < n) (h2 : mI M A v = 2) (i2 : i32 l2) (i3 : i32 l3) (h4 : l4 = 0 ∨ l4 = 1) (hl : (l2 = 5 ∧ 0 ≤ l3 ∧ l3 < V) ∨ ((l2 = 4 ∨ l2 = 7) ∧ 0 ≤ l3 ∧ l3 < F ∧ ns l3.toNat = l2)) : Cv G y_RR_know d [vr r, vi v, vi l2, vi l3, vi l4] M (fun M' => RB M' z r w T A B D N C n p O P K ∧ FI (fun b => r ≤ b ∧ b ≤ r + 9) M M' ∧ (∀ i, i ≠ 19 → mI M' r i = mI M r i) ∧ (∀ i, i ≤ 5 → 1 ≤ i → mI M' (r + i) = mI M (r + i)) ∧ (∃ c', TN M' r A n V F ns c' ∧ c ≤ c') ∧ (c < 72 → knX M r c v l2 l3 l4 M')) := by
  obtain ⟨-, ⟨k0, ⟨-, -, -, -, -, q15, q16, q17, q18⟩, ⟨-, -, -, -, -, kk6, kk7, kk8, kk9⟩, ⟨-, -, -, -, -, nn6, nn7, nn8, nn9⟩⟩, -⟩ := id h
  have hn := h.2.2.2.1.2.2.1
  have hN := h.2.2.2.1.1.2.2.2.2.2.2.1
  obtain ⟨m1, m2, m3⟩ := id nk
  refine k_RR_know h.1 (i32s (by omega) (by omega)) i2 i3 (i32s (by omega) (by omega)) ?_
  rw [q15, nn6, m1, Int.toNat_natCast]
  refine ⟨k0, kk6, i32s (by omega) (by omega), fun y => ⟨h, FI.refl, fun _ _ => rfl, fun _ _ _ => rfl, ⟨c, nk, Nat.le_refl _⟩, fun u => absurd y (by omega)⟩, fun y => ⟨by omega, fun M13 e13 => ?_⟩⟩
  obtain ⟨h13, f13, g13, n13⟩ := rb_tab h (i := 6) (by omega) (by omega) (i32s (by omega) (by omega)) e13
  obtain ⟨-, ⟨k0a, ⟨-, -, -, -, -, -, qa, -⟩, ⟨-, -, -, -, -, -, ka, -⟩, ⟨-, -, -, -, -, -, na, -⟩⟩, -⟩ := id h13
  rw [qa, na, n13 r (by omega), m1, Int.toNat_natCast]
  refine ⟨ka, by omega, fun M17 e17 => ?_⟩
  obtain ⟨h17, f17, g17, n17⟩ := rb_tab h13 (i := 7) (by omega) (by omega) i2 e17
  obtain ⟨-, ⟨k0b, ⟨-, -, -, -, -, -, -, qb, -⟩, ⟨-, -, -, -, -, -, -, kb, -⟩, ⟨-, -, -, -, -, -, -, nb, -⟩⟩, -⟩ := id h17
  rw [qb, nb, n17 r (by omega), n13 r (by omega), m1, Int.toNat_natCast]
  refine ⟨kb, by omega, fun M21 e21 => ?_⟩
  obtain ⟨h21, f21, g21, n21⟩ := rb_tab h17 (i := 8) (by omega) (by omega) i3 e21
  obtain ⟨-, ⟨k0c, ⟨-, -, -, -, -, -, -, -, qc⟩, ⟨-, -, -, -, -, -, -, -, kc⟩, ⟨-, -, -, -, -, -, -, -, nc⟩⟩, -⟩ := id h21
  rw [qc, nc, n21 r (by omega), n17 r (by omega), n13 r (by omega), m1, Int.toNat_natCast]
  refine ⟨kc, by omega, h4, fun M26 e26 => ?_⟩
  obtain ⟨h26, f26, g26, n26⟩ := rb_tab h21 (i := 9) (by omega) (by omega) (i32s (by omega) (by omega)) e26
  have r26 : mI M26 r = mI M r := by rw [n26 r (by omega), n21 r (by omega), n17 r (by omega), n13 r (by omega)]
  rw [r26, m1]
  refine ⟨⟨by omega, by omega⟩, fun M29 e29 => ?_⟩
  obtain ⟨h29, f29, r29, n29⟩ := rb_fld h26 ⟨by omega, by omega⟩ e29
  have fi : FI (fun b => r ≤ b ∧ b ≤ r + 9) M M29 := by
    have x13 : FI (fun b => r ≤ b ∧ b ≤ r + 9) M M13 := by rw [e13]; exact FI.ui ⟨by omega, by omega⟩
    have x17 : FI (fun b => r ≤ b ∧ b ≤ r + 9) M13 M17 := by rw [e17]; exact FI.ui ⟨by omega, by omega⟩
    have x21 : FI (fun b => r ≤ b ∧ b ≤ r + 9) M17 M21 := by rw [e21]; exact FI.ui ⟨by omega, by omega⟩
    have x26 : FI (fun b => r ≤ b ∧ b ≤ r + 9) M21 M26 := by rw [e26]; exact FI.ui ⟨by omega, by omega⟩
    have x29 : FI (fun b => r ≤ b ∧ b ≤ r + 9) M26 M29 := by rw [e29]; exact FI.ui ⟨by omega, by omega⟩
    exact (((x13.trans x17).trans x21).trans x26).trans x29
  have hA := (h.word ((((f13.trans f17).trans f21).trans f26).trans f29)).1
  refine ⟨h29, fi, fun i i19 => by rw [r29, if_neg i19, r26], fun i i5 i1 => by rw [n29 _ (by omega), n26 _ (by omega), n21 _ (by omega), n17 _ (by omega), n13 _ (by omega)], ⟨c + 1, ⟨by rw [r29, if_pos rfl]; omega, by omega, fun i hi => ?_⟩, by omega⟩, fun _ => ⟨by rw [r29, if_pos rfl]; omega, fun i => by rw [n29 _ (by omega), n26 _ (by omega), n21 _ (by omega), n17 _ (by omega), g13], fun i => by rw [n29 _ (by omega), n26 _ (by omega), n21 _ (by omega), g17, n13 _ (by omega)], fun i => by rw [n29 _ (by omega), n26 _ (by omega), g21, n17 _ (by omega), n13 _ (by omega)], fun i => by rw [n29 _ (by omega), g26, n21 _ (by omega), n17 _ (by omega), n13 _ (by omega)]⟩⟩
  rw [hA, show mI M29 (r + 6) i = if i = c then (v : Int) else mI M (r + 6) i by rw [n29 _ (by omega), n26 _ (by omega), n21 _ (by omega), n17 _ (by omega), g13], show mI M29 (r + 7) i = if i = c then l2 else mI M (r + 7) i by rw [n29 _ (by omega), n26 _ (by omega), n21 _ (by omega), g17, n13 _ (by omega)], show mI M29 (r + 8) i = if i = c then l3 else mI M (r + 8) i by rw [n29 _ (by omega), n26 _ (by omega), g21, n17 _ (by omega), n13 _ (by omega)], show mI M29 (r + 9) i = if i = c then l4 else mI M (r + 9) i by rw [n29 _ (by omega), g26, n21 _ (by omega), n17 _ (by omega), n13 _ (by omega)]]
  by_cases y : i = c
  · rw [if_pos y, if_pos y, if_pos y, if_pos y]
    exact ⟨⟨v, rfl, hv, h2⟩, hl, h4⟩
  · rw [if_neg y, if_neg y, if_neg y, if_neg y]
    exact m3 i (by omega)
/-- the tables with one name more -/
theorem CT.kn {v : Nat} {l2 l3 l4 : Int} {e : nm9} (ct : CT M r p nms) (hc : nms.length = c) (kx : knX M r c v l2 l3 l4 M') (h6 : mI M' (p + 6) = mI M (p + 6)) (h7 : mI M' (p + 7) = mI M (p + 7)) (f1 : e.1 = v) (f2 : srt9 e.2.1 = l2) (f3 : 1 ≤ e.2.1 ∧ e.2.1 ≤ 3) (f4 : e.2.2.1 = l4) (f5 : e.2.1 = 1 → vgd e.2.2.1 e.2.2.2 ∧ ∃ x : Nat, l3 = x ∧ x < 60 ∧ (1 ≤ mI M (p + 7) x ∧ mI M (p + 7) x < 1000000000) ∧ e.2.2.2 = (0, mI M (p + 6) x, mI M (p + 7) x)) (f6 : e.2.1 = 3 → ∀ (j : Nat) (e' : nm9), nms[j]? = some e' → e'.2.1 = 3 → mI M (r + 8) j ≠ l3) : CT M' r p (nms ++ [e]) := by
  obtain ⟨k1, k2, k3, k4, k5⟩ := kx
  have at9 : ∀ {j : Nat} {e' : nm9}, (nms ++ [e])[j]? = some e' → (j = c ∧ e' = e) ∨ (j ≠ c ∧ nms[j]? = some e') := fun {j e'} he => by
    by_cases y : j = c
    · refine Or.inl ⟨y, ?_⟩
      rw [y, ← hc, List.getElem?_append_right (Nat.le_refl _), Nat.sub_self] at he
      exact (Option.some.inj he).symm
    · refine Or.inr ⟨y, ?_⟩
      have hj : j < nms.length := by
        have := (List.getElem?_eq_some_iff.mp he).1
        rw [List.length_append] at this
        simp at this
        omega
      rw [List.getElem?_append_left hj] at he
      exact he
  refine ⟨by rw [k1, List.length_append, hc]; rfl, fun i e' he => ?_⟩
  have vn : e'.2.1 = 3 → ∀ (j : Nat) (e'' : nm9), (nms ++ [e])[j]? = some e'' → e''.2.1 = 3 → mI M' (r + 8) j = mI M' (r + 8) i → j = i := fun g1 j e'' hj g2 g3 => by
    rw [k4, k4] at g3
    rcases at9 he with ⟨y1, y2⟩ | ⟨y1, y2⟩
    · rcases at9 hj with ⟨z1, z2⟩ | ⟨z1, z2⟩
      · rw [y1, z1]
      · rw [if_neg z1, if_pos y1] at g3
        rw [y2] at g1
        exact absurd g3 (f6 g1 j e'' z2 g2)
    · rcases at9 hj with ⟨z1, z2⟩ | ⟨z1, z2⟩
      · rw [if_pos z1, if_neg y1] at g3
        rw [z2] at g2
        exact absurd g3.symm (f6 g2 i e' y2 g1)
      · rw [if_neg z1, if_neg y1] at g3
        exact (ct.2 i e' y2).2.2.2.2.2 g1 j e'' z2 g2 g3
  rw [k2, k3, k5, h6, h7]
  by_cases y : i = c
  · have : e' = e := by
      rw [y, ← hc, List.getElem?_append_right (Nat.le_refl _), Nat.sub_self] at he
      exact (Option.some.inj he).symm
    subst this
    rw [if_pos y, if_pos y, if_pos y]
    exact ⟨by rw [f1], f2.symm, f3, f4.symm, by rw [k4, if_pos y]; exact f5, vn⟩
  · have hi : i < nms.length := by
      have := (List.getElem?_eq_some_iff.mp he).1
      rw [List.length_append] at this
      simp at this
      omega
    rw [List.getElem?_append_left hi] at he
    rw [if_neg y, if_neg y, if_neg y]
    obtain ⟨t1, t2, t3, t4, t5, -⟩ := ct.2 i e' he
    exact ⟨t1, t2, t3, t4, by rw [k4, if_neg y]; exact t5, vn⟩
end TXI
end
section
/-! The class's reader of texts, exactly: what the words of a const's rule push. -/
section TXJ
variable {W pl nq E : Nat → Int} {Cf : Nat → Int × Int} {sm : Nat → Nat → Prop} {M M' : mM} {q r T A B D n c p V F : Nat} {ns : Nat → Int} {nms : List nm9}
/-- the words' values, those beyond the text 0 -/
noncomputable def cvn (W nq : Nat → Int) (sm : Nat → Nat → Prop) (nms : List nm9) (n : Nat) (v : Nat) : vrs := if v < n then cv9 W nq sm nms v else (0, 0, 1)
theorem vgd_0 {k : Int} (_ : k = 0 ∨ k = 1) : vgd k (0, 0, 1) := vgd_01.2
theorem lf_ex (wt : WTq M T A B D n W pl nq sm) (ec : ECq M r p n W nq sm nms c 1 E Cf) (ct : CT M r p nms) (hl : nms.length = c) (h9 : ∀ i, i < c → mI M (r + 9) i = 0 ∨ mI M (r + 9) i = 1) : ∀ k, (W k = 1 ∨ W k = 2 ∨ W k = 12 ∨ W k = 13) → (W k = 1 → E k ≠ -1) → Lfo M p W E (cvn W nq sm nms n) Cf k := by
  intro k hk hne
  obtain ⟨big, ec⟩ := ec
  obtain ⟨eE, ec⟩ := ec ct hl
  unfold Lfo cvn
  by_cases kn : k < n
  · rw [if_pos kn]
    obtain ⟨c2, c12, c13, c1⟩ := ec k kn
    unfold cv9
    rcases hk with h | h | h | h
    · obtain ⟨i, e, z1, z2, z3, z4⟩ := c1 h (hne h)
      have e1 : e.2.1 = 1 := z3.resolve_left (by decide)
      obtain ⟨t1, t2, t3, t4, t5, -⟩ := ct.2 i e z1
      obtain ⟨g1, x, g2, g3, g4, g5⟩ := t5 e1
      have hi : i < c := by rw [← hl]; exact (List.getElem?_eq_some_iff.mp z1).1
      have Ev : E k = e.2.2.1 := by
        rw [eE]
        unfold E9
        rw [z2]
        show (if (if (1 : Int) = 0 then (0 : Int) else 1) = 1 ∧ e.2.1 ≠ 1 then (-1 : Int) else e.2.2.1) = e.2.2.1
        rw [if_neg (fun y => y.2 e1)]
      rw [if_pos h, z2]
      refine ⟨?_, Or.inr ⟨?_, x, ?_, g3, g4, g5⟩⟩
      · have k01 := h9 i hi
        rw [t4] at k01
        by_cases y : E k = 1
        · rw [if_pos (Or.inr (Or.inr ⟨h, y⟩))]
          rw [← Ev, y] at g1
          exact g1
        · rw [if_neg (by omega)]
          have : e.2.2.1 = 0 := by omega
          rw [this] at g1
          exact g1
      · rw [z4, t2, e1]; rfl
      · rw [z4]; exact g2
    · rw [if_neg (by omega), if_pos h, if_neg (by omega)]
      obtain ⟨-, b1, b2⟩ := wt.2.1 k kn h
      refine ⟨Or.inl ⟨rfl, ?_, ⟨by simp, by simp⟩, ?_, fun u => absurd u (by decide)⟩, Or.inl ⟨by rw [c2 h], by rw [c2 h]⟩⟩
      · show (nq k).natAbs ≤ 999999999
        omega
      · show Int.gcd (nq k) 1 = 1
        exact Int.gcd_one
    · rw [if_pos (show W k = 12 ∨ W k = 13 ∨ (W k = 1 ∧ E k = 1) from Or.inl h), if_neg (show ¬ W k = 1 by omega), if_neg (show ¬ W k = 2 by omega), if_pos h]
      exact ⟨vgd_01.1, Or.inl ⟨by rw [c12 h], by rw [c12 h]⟩⟩
    · rw [if_pos (show W k = 12 ∨ W k = 13 ∨ (W k = 1 ∧ E k = 1) from Or.inr (Or.inl h)), if_neg (show ¬ W k = 1 by omega), if_neg (show ¬ W k = 2 by omega), if_neg (show ¬ W k = 12 by omega)]
      exact ⟨vgd_01.2, Or.inl ⟨by rw [c13 h], by rw [c13 h]⟩⟩
  · rw [if_neg kn]
    have cb := big k (by omega)
    refine ⟨?_, Or.inl ⟨by rw [cb], by rw [cb]⟩⟩
    split
    · exact vgd_0 (Or.inr rfl)
    · exact vgd_0 (Or.inl rfl)
/-- consts' values stay: a new one is put behind them -/
theorem CT.tab (ct : CT M (q + 1) p nms) (tn : TN M (q + 1) A n V F ns c) (hl : nms.length = c) (h19 : mI M' (q + 1) 19 = mI M (q + 1) 19) (h6 : mI M' (q + 1 + 6) = mI M (q + 1 + 6)) (h7 : mI M' (q + 1 + 7) = mI M (q + 1 + 7)) (h8 : mI M' (q + 1 + 8) = mI M (q + 1 + 8)) (h9 : mI M' (q + 1 + 9) = mI M (q + 1 + 9)) (p6 : ∀ i, i < F → mI M' (p + 6) i = mI M (p + 6) i) (p7 : ∀ i, i < F → mI M' (p + 7) i = mI M (p + 7) i) : CT M' (q + 1) p nms := by
  refine ⟨by rw [h19]; exact ct.1, fun i e z => ?_⟩
  obtain ⟨t1, t2, t3, t4, t5, t6⟩ := ct.2 i e z
  rw [h6, h7, h8, h9]
  refine ⟨t1, t2, t3, t4, fun e1 => ?_, t6⟩
  obtain ⟨g1, x, g2, g3, g4, g5⟩ := t5 e1
  have hi : i < c := by rw [← hl]; exact (List.getElem?_eq_some_iff.mp z).1
  have xF : x < F := by
    obtain ⟨-, u, -⟩ := tn.2.2 i hi
    rw [t2, e1] at u
    rcases u with u | u
    · exact absurd u.1 (by decide)
    · have := u.2.2.1; omega
  exact ⟨g1, x, g2, g3, by rw [p7 x xF]; exact g4, by rw [p6 x xF, p7 x xF]; exact g5⟩
end TXJ
end
section
/-! The class's reader of texts, exactly: a const or formula is settled. -/
section TXK
variable {G : mG} {d z q w T A B D N C n p O P K Ab Be Cm V F c s s' L L' cnt Bn a d0 V1 F1 nw k e s9 Ab0 Be0 Cm0 Ab1 Be1 Cm1 : Nat} {M0 M M' M1 M2 : mM} {ns ns' ns1 : Nat → Int} {sf ef sf' ef' : Nat → Nat} {H : Nat → Nat} {S R : Nat → Prop} {W pl nq E : Nat → Int} {Cf : Nat → Int × Int} {sm : Nat → Nat → Prop} {nms : List nm9} {ft : Int × Int} {e9 : nm9} {v : vrs}
/-- a name has been added -/
def snY (M : mM) (q p F : Nat) (nms : List nm9) (e9 : nm9) (M' : mM) : Prop := CT M' (q + 1) p (nms ++ [e9]) ∧ (∀ i, i ≠ 19 → mI M' (q + 1) i = mI M (q + 1) i) ∧ ∀ i, i ≠ 2 → mI M' p i = if i = 7 then (F : Int) + 1 else mI M p i
theorem sn_mono {l1 l2 : Int} {b : Nat} {Q Q' : mM → Prop} (h : h_TR_settleNamed_115 G d b l1 l2 M Q) (hq : ∀ M', Q M' → Q' M') : h_TR_settleNamed_115 G d b l1 l2 M Q' := mWm.mono h (fun _ M' u => ⟨u.1, hq M' u.2⟩)
theorem x_sn115 {l1 : Int} {Q : mM → Prop} (h4 : l1 = 4 ∨ l1 = 7) (h : TX M z q w T A B D N C n p O P K Ab Be Cm V (F + 1) (un ns F l1) sf ef c cnt L) (h60 : F < 60) (hn : mI M q 3 = ((nw : Nat) : Int) ∧ nw < n ∧ mI M A nw = 2) (h8 : mI M q 8 = 0 ∨ mI M q 8 = 1) (hp : mI M p 2 = ((L : Nat) : Int)) (ha : mI M (q + 1) 2 = ((a : Nat) : Int)) (han : a ≤ n) (hLa : L ≤ a) (hd : mI M (q + 1) 5 = 0) (hf : trF M0 q p O P Ab0 Be0 Cm0 M Ab Be Cm) (ct : CT M (q + 1) p nms) (hl : nms.length = c) (hc72 : c < 72) (f1 : e9.1 = nw) (f2 : srt9 e9.2.1 = l1) (f3 : 1 ≤ e9.2.1 ∧ e9.2.1 ≤ 3) (f4 : e9.2.2.1 = mI M q 8) (f5 : Hid (e9.2.1 = 1 → vgd e9.2.2.1 e9.2.2.2 ∧ ∃ x : Nat, (F : Int) = x ∧ x < 60 ∧ (1 ≤ mI M (p + 7) x ∧ mI M (p + 7) x < 1000000000) ∧ e9.2.2.2 = (0, mI M (p + 6) x, mI M (p + 7) x))) (hQ : ∀ M', itE M0 z q w T A B D N C n p O P K Ab0 Be0 Cm0 M' → CT M' (q + 1) p (nms ++ [e9]) → (∀ i, i ≠ 19 → mI M' (q + 1) i = mI M (q + 1) i) → mI M' p = mI M p → Q M') : h_TR_settleNamed_115 G (d + 5) q l1 F M Q := by
  obtain ⟨⟨np0, np1, -, -⟩, ⟨nO0, nO1, -, -, nOp⟩, nP0, nP1, -, -, nPp⟩ := h.1.ne
  have ap := h.1.apart
  have qp := h.1.2.2.2.2.2.1.2.1
  have ok := h.1.1.1
  obtain ⟨t0, t1, t2, t3, t4, t5⟩ := h.1.2.1
  refine k_TR_settleNamed_115 ok (i32s (by omega) (by omega)) (i32s (by omega) (by omega)) ?_
  rw [t1, hn.1]
  refine ⟨t0, h.1.1.2.1.1, (x_RR_know (v := nw) h.1.1 h.2.1.2.2.1 hn.2.1 hn.2.2 (i32s (by omega) (by omega)) (i32s (by omega) (by omega)) h8 (Or.inr ⟨h4, by omega, by omega, ?_⟩)).mono (fun M84 k => ?_)⟩
  · unfold un
    rw [if_pos (by omega)]
  obtain ⟨k1, k2, k3, k4, ⟨c', k5, -⟩, k6⟩ := k
  have f84 : FI (txS q p O P) M M84 := k2.mono (fun b y => Or.inl (by have y' : q + 1 ≤ b ∧ b ≤ q + 1 + 9 := y; omega))
  have nb : ∀ b, (b < q + 1 ∨ q + 1 + 9 < b) → mI M84 b = mI M b := fun b hb => k2.2.2.2.2.2.2 b (fun y => by have y' : q + 1 ≤ b ∧ b ≤ q + 1 + 9 := y; omega)
  have h84 : TX M84 z q w T A B D N C n p O P K Ab Be Cm V (F + 1) (un ns F l1) sf ef c' cnt L := by
    obtain ⟨hP, ⟨c1, c2, c3, c4⟩, hX⟩ := h
    refine ⟨hP.fi k1.1 f84, ⟨by rw [nb p (by omega)]; exact c1, by rw [nb p (by omega)]; exact c2, k5, fun j => by rw [show q + 6 = q + 1 + 5 by omega, k4 5 (by omega) (by omega)]; exact c4 j⟩, hX.cg (fun y => by rw [k3 3 (by decide)]; exact y) (fun i _ => by rw [nb p (by omega)]) (fun i _ _ => nb _ (by omega)) (fun i _ => ⟨by rw [nb O (by omega)], by rw [nb P (by omega)]⟩)⟩
  exact ⟨k1.1, hQ M84 ⟨Ab, Be, Cm, V, F + 1, un ns F l1, sf, ef, c', cnt, L, a, h84, by rw [nb p (by omega)]; exact hp, by rw [k3 2 (by decide)]; exact ha, han, hLa, by rw [k3 5 (by decide)]; exact hd, hf.trans (trF.fi f84)⟩ (ct.kn hl (k6 hc72) (nb _ (by omega)) (nb _ (by omega)) f1 f2 f3 f4 f5 (fun u => by
    rw [u] at f2
    rcases h4 with v | v <;> rw [v] at f2 <;> exact absurd f2 (by decide))) k3 (nb p (by omega))⟩
theorem x_sn_fin (h : TX M z q w T A B D N C n p O P K Ab Be Cm V F ns sf ef c cnt L) (h0 : mI M (q + 1) 3 = 0) (h60 : F < 60) (hb : 1 ≤ mI M Be 0 ∧ mI M Be 0 < 1000000000) (hn : mI M q 3 = ((nw : Nat) : Int) ∧ nw < n ∧ mI M A nw = 2) (h8 : mI M q 8 = 0 ∨ mI M q 8 = 1) (hLa : L ≤ a) (ha : mI M (q + 1) 2 = ((a : Nat) : Int)) (han : a ≤ n) (hd : mI M (q + 1) 5 = 0) (hf : trF M0 q p O P Ab0 Be0 Cm0 M Ab Be Cm) (o46 : mOk M') (fx : FI (txS q p O P) M M') (ip : ∀ i, mI M' p i = if i = 2 then ((L : Nat) : Int) else if i = 7 then (F : Int) + 1 else mI M p i) (i7 : ∀ i, mI M' (p + 7) i = if i = F then mI M Be 0 else mI M (p + 7) i) (i8 : ∀ i, mI M' (p + 8) i = if i = F then ((L : Nat) : Int) else mI M (p + 8) i) (nb : ∀ b, b ≠ p → b ≠ p + 6 → b ≠ p + 7 → b ≠ p + 8 → mI M' b = mI M b) (i6 : ∀ i, mI M' (p + 6) i = if i = F then mI M Ab 0 else mI M (p + 6) i) (ct : CT M (q + 1) p nms) (hl : nms.length = c) (hc72 : c < 72) (hv : v.1 = 0 ∧ mI M Ab 0 = v.2.1 ∧ mI M Be 0 = v.2.2) (gv : vgd (mI M q 8) v) : h_TR_settleNamed_115 G (d + 5) q 4 F M' (fun M9 => itE M0 z q w T A B D N C n p O P K Ab0 Be0 Cm0 M9 ∧ snY M q p F nms (nw, 1, mI M q 8, v) M9) := by
  have nO : mI M' O = mI M O ∧ mI M' P = mI M P ∧ (∀ i, i ≤ 10 → mI M' (q + i) = mI M (q + i)) ∧ (∀ i, 9 ≤ i → i ≤ 15 → mI M' (p + i) = mI M (p + i)) := by
    have ap := h.1.apart
    have qp := h.1.2.2.2.2.2.1.2.1
    clear h h0 hb hn h8 ha hd hf ip i7 i8 fx
    exact ⟨nb O (by omega) (by omega) (by omega) (by omega), nb P (by omega) (by omega) (by omega) (by omega), fun i hi => nb _ (by omega) (by omega) (by omega) (by omega), fun i h9 h15 => nb _ (by omega) (by omega) (by omega) (by omega)⟩
  have h46 := tx_name (l1 := 4) (e := 0) (H := fun _ => 0) (L' := L) h h0 h60 o46 fx (fun i hi => by rw [show q + 1 + i = q + (1 + i) by omega]; exact nO.2.2.1 _ (by omega)) (fun i y2 y7 => by rw [ip, if_neg y2, if_neg y7]) (by rw [ip, if_neg (by decide), if_pos rfl]; rfl) nO.2.2.2 (fun i hi => by rw [i7, if_neg (Nat.ne_of_lt hi)]) (fun i hi => by rw [i8, if_neg (Nat.ne_of_lt hi)]) (fun i _ => ⟨by rw [nO.1], by rw [nO.2.1]⟩) (Nat.le_refl _) (Or.inl ⟨rfl, by rw [i7, if_pos rfl]; exact hb⟩)
  have wA := (h.1.words fx).1
  have n0 := nO.2.2.1 0 (by omega)
  have n1 := nO.2.2.1 1 (by omega)
  rw [Nat.add_zero] at n0
  have r6 : ∀ i, i ≤ 9 → mI M' (q + 1 + i) = mI M (q + 1 + i) := fun i hi => by rw [show q + 1 + i = q + (1 + i) by omega]; exact nO.2.2.1 _ (by omega)
  have ct' : CT M' (q + 1) p nms := ct.tab h.2.1.2.2.1 hl (by rw [n1]) (r6 6 (by omega)) (r6 7 (by omega)) (r6 8 (by omega)) (r6 9 (by omega)) (fun i hi => by rw [i6, if_neg (Nat.ne_of_lt hi)]) (fun i hi => by rw [i7, if_neg (Nat.ne_of_lt hi)])
  exact x_sn115 (e9 := (nw, 1, mI M q 8, v)) (nms := nms) (Or.inl rfl) h46 h60 ⟨by rw [n0]; exact hn.1, hn.2.1, by rw [wA]; exact hn.2.2⟩ (by rw [n0]; exact h8) (by rw [ip, if_pos rfl]) (by rw [n1]; exact ha) han hLa (by rw [n1]; exact hd) (hf.trans (trF.fi fx)) ct' hl hc72 rfl rfl ⟨by simp, by simp⟩ (by rw [n0]) (fun _ => ⟨gv, F, rfl, h60, by rw [i7, if_pos rfl]; exact hb, by rw [i6, if_pos rfl, i7, if_pos rfl, hv.2.1, hv.2.2, ← hv.1]⟩) (fun M9 e1 e2 e3 e4 => ⟨e1, e2, fun i hi => by rw [e3 i hi, n1], fun i hi => by rw [e4, ip, if_neg hi]⟩)
theorem x_sn_const {Q : mM → Prop} (hQ : ∀ M9, itE M0 z q w T A B D N C n p O P K Ab0 Be0 Cm0 M9 ∧ snY M q p F nms (nw, 1, mI M q 8, v) M9 → Q M9) (h : TX M z q w T A B D N C n p O P K Ab Be Cm V F ns sf ef c cnt L) (h0 : mI M (q + 1) 3 = 0) (h60 : F < 60) (hb : 1 ≤ mI M Be 0 ∧ mI M Be 0 < 1000000000) (hn : mI M q 3 = ((nw : Nat) : Int) ∧ nw < n ∧ mI M A nw = 2) (h8 : mI M q 8 = 0 ∨ mI M q 8 = 1) (h21 : mI M (q + 21) 0 = ((L : Nat) : Int)) (hLa : L ≤ a) (ha : mI M (q + 1) 2 = ((a : Nat) : Int)) (han : a ≤ n) (hd : mI M (q + 1) 5 = 0) (hf : trF M0 q p O P Ab0 Be0 Cm0 M Ab Be Cm) (ct : CT M (q + 1) p nms) (hl : nms.length = c) (hc72 : c < 72) (hv : v.1 = 0 ∧ mI M Ab 0 = v.2.1 ∧ mI M Be 0 = v.2.2) (gv : vgd (mI M q 8) v) : mK M q = 3 ∧ mK M (mR M q 2) = 6 ∧ i32 ((mI M (mR M q 2) 7) + 1) ∧ ∀ M16, M16 = mUI M (mR M q 2) 7 ((mI M (mR M q 2) 7) + 1) → mK M16 (mR M16 q 2) = 6 ∧ mK M16 (mR M16 q 5) = 30 ∧ ((0 : Int) ≤ 0 ∧ 0 < (mN M16 (mR M16 q 5) : Int)) ∧ mK M16 (mR M16 (mR M16 q 2) 10) = 30 ∧ ((0 : Int) ≤ mI M (mR M q 2) 7 ∧ mI M (mR M q 2) 7 < (mN M16 (mR M16 (mR M16 q 2) 10) : Int)) ∧ ∀ M23, M23 = mUI M16 (mR M16 (mR M16 q 2) 10) (Int.toNat (mI M (mR M q 2) 7)) (mI M16 (mR M16 q 5) 0) → (mK M23 (mR M23 q 2) = 6 ∧ mK M23 (mR M23 q 1) = 5 ∧ mK M23 (mR M23 (mR M23 q 1) 6) = 30 ∧ ((0 : Int) ≤ 0 ∧ 0 < (mN M23 (mR M23 (mR M23 q 1) 6) : Int)) ∧ mK M23 (mR M23 (mR M23 q 2) 8) = 30 ∧ ((0 : Int) ≤ mI M (mR M q 2) 7 ∧ mI M (mR M q 2) 7 < (mN M23 (mR M23 (mR M23 q 2) 8) : Int)) ∧ ∀ M33, M33 = mUI M23 (mR M23 (mR M23 q 2) 8) (Int.toNat (mI M (mR M q 2) 7)) (mI M23 (mR M23 (mR M23 q 1) 6) 0) → mK M33 (mR M33 q 2) = 6 ∧ mK M33 (mR M33 q 1) = 5 ∧ mK M33 (mR M33 (mR M33 q 1) 7) = 30 ∧ ((0 : Int) ≤ 0 ∧ 0 < (mN M33 (mR M33 (mR M33 q 1) 7) : Int)) ∧ mK M33 (mR M33 (mR M33 q 2) 9) = 30 ∧ ((0 : Int) ≤ mI M (mR M q 2) 7 ∧ mI M (mR M q 2) 7 < (mN M33 (mR M33 (mR M33 q 2) 9) : Int)) ∧ ∀ M41, M41 = mUI M33 (mR M33 (mR M33 q 2) 9) (Int.toNat (mI M (mR M q 2) 7)) (mI M33 (mR M33 (mR M33 q 1) 7) 0) → mK M41 (mR M41 q 5) = 30 ∧ ((0 : Int) ≤ 0 ∧ 0 < (mN M41 (mR M41 q 5) : Int)) ∧ mK M41 (mR M41 q 2) = 6 ∧ ∀ M46, M46 = mUI M41 (mR M41 q 2) 2 (mI M41 (mR M41 q 5) 0) → h_TR_settleNamed_115 G (d + 5) q 4 (mI M (mR M q 2) 7) M46 Q) := by
  obtain ⟨⟨np0, np1, np21, -⟩, ⟨nO0, nO1, -, -, nOp⟩, nP0, nP1, -, -, nPp⟩ := h.1.ne
  have ap := h.1.apart
  have qp := h.1.2.2.2.2.2.1.2.1
  have ok := h.1.1.1
  obtain ⟨t0, t1, t2, t3, t4, t5⟩ := h.1.2.1
  obtain ⟨s1, s2, s3, s4⟩ := h.1.2.2.1
  obtain ⟨k6, ⟨-, -, -, p8, p9, p10, -⟩, ⟨-, -, -, kp6, kp7, kp8, -⟩, ⟨-, -, -, np6, np7, np8, -⟩⟩ := h.tab
  obtain ⟨⟨c1, c2⟩, ⟨f7, -⟩, -⟩ := h.2.1
  obtain ⟨km, ⟨-, -, m6, m7, -⟩, ⟨-, -, kA, kB, -⟩, ⟨-, nA, nB, -⟩, -, ⟨sA, sB, sne, sz⟩, -, ⟨c64, -⟩⟩ := h.1.2.2.2.1
  have hN : n ≤ 16384 := by have := h.1.1.2.2.2.1.2.2.1; have := h.1.1.2.2.2.1.1.2.2.2.2.2.2.1; omega
  have Bp : Be ≠ p ∧ Be ≠ p + 8 ∧ Be ≠ p + 6 ∧ Be ≠ p + 7 ∧ Ab ≠ p ∧ Ab ≠ p + 8 := by
    have := ap.1
    unfold Mpr at this
    clear h hf hn
    omega
  have q21p : q + 21 ≠ p ∧ q + 21 ≠ p + 8 ∧ q + 21 ≠ p + 6 ∧ q + 21 ≠ p + 7 := by clear h hf hn; omega
  rw [t3, f7, Int.toNat_natCast]
  refine ⟨t0, k6, ⟨by omega, by omega⟩, fun M16 e16 => ?_⟩
  have f16 : FI (fun b => b = p) M M16 := by rw [e16]; exact FI.ui rfl
  rw [f16.1, f16.2.1, f16.2.2.1, t3, t4, p10, np8, s3, f16.2.2.2.2.2.2 _ q21p.1, h21]
  refine ⟨k6, s1, ⟨by omega, by omega⟩, kp8, by omega, fun M23 e23 => ?_⟩
  have f23 : FI (fun b => b = p + 8) M16 M23 := by rw [e23]; exact FI.ui rfl
  rw [f23.1, f23.2.1, f23.2.2.1, f16.1, f16.2.1, f16.2.2.1, t2, t3, p8, np6, m6, nA]
  refine ⟨k6, km, kA, ⟨by omega, by omega⟩, kp6, by omega, fun M33 e33 => ?_⟩
  have f33 : FI (fun b => b = p + 6) M23 M33 := by rw [e33]; exact FI.ui rfl
  rw [f33.1, f33.2.1, f33.2.2.1, f23.1, f23.2.1, f23.2.2.1, f16.1, f16.2.1, f16.2.2.1, t2, t3, p9, np7, m7, nB]
  refine ⟨k6, km, kB, ⟨by omega, by omega⟩, kp7, by omega, fun M41 e41 => ?_⟩
  have f41 : FI (fun b => b = p + 7) M33 M41 := by rw [e41]; exact FI.ui rfl
  have i21 : mI M41 (q + 21) 0 = ((L : Nat) : Int) := by rw [f41.2.2.2.2.2.2 _ q21p.2.2.2, f33.2.2.2.2.2.2 _ q21p.2.2.1, f23.2.2.2.2.2.2 _ q21p.2.1, f16.2.2.2.2.2.2 _ q21p.1]; exact h21
  rw [f41.1, f41.2.1, f41.2.2.1, f33.1, f33.2.1, f33.2.2.1, f23.1, f23.2.1, f23.2.2.1, f16.1, f16.2.1, f16.2.2.1, t3, t4, s3, i21]
  refine ⟨s1, ⟨by omega, by omega⟩, k6, fun M46 e46 => ?_⟩
  have f46 : FI (fun b => b = p) M41 M46 := by rw [e46]; exact FI.ui rfl
  have iB : mI M33 Be 0 = mI M Be 0 := by rw [f33.2.2.2.2.2.2 _ Bp.2.2.1, f23.2.2.2.2.2.2 _ Bp.2.1, f16.2.2.2.2.2.2 _ Bp.1]
  have ff : FI (fun b => b = p ∨ b = p + 6 ∨ b = p + 7 ∨ b = p + 8) M M46 := ((((f16.mono (fun _ y => Or.inl y)).trans (f23.mono (fun _ y => Or.inr (Or.inr (Or.inr y))))).trans (f33.mono (fun _ y => Or.inr (Or.inl y)))).trans (f41.mono (fun _ y => Or.inr (Or.inr (Or.inl y))))).trans (f46.mono (fun _ y => Or.inl y))
  have o16 : mOk M16 := by rw [e16]; exact mOk_UI ok ⟨by omega, by omega⟩
  have o23 : mOk M23 := by rw [e23]; exact mOk_UI o16 ⟨by omega, by omega⟩
  have o33 : mOk M33 := by rw [e33]; exact mOk_UI o23 (o23 _ _).1
  have o41 : mOk M41 := by rw [e41]; exact mOk_UI o33 (o33 _ _).1
  have o46 : mOk M46 := by rw [e46]; exact mOk_UI o41 ⟨by omega, by omega⟩
  have ip : ∀ i, mI M46 p i = if i = 2 then ((L : Nat) : Int) else if i = 7 then (F : Int) + 1 else mI M p i := fun i => by
    rw [mI_ui p i e46]
    by_cases y2 : i = 2
    · rw [if_pos ⟨rfl, y2⟩, if_pos y2]
    · rw [if_neg (fun u => y2 u.2), if_neg y2, f41.2.2.2.2.2.2 p (by omega), f33.2.2.2.2.2.2 p (by omega), f23.2.2.2.2.2.2 p (by omega), mI_ui p i e16]
      by_cases y7 : i = 7
      · rw [if_pos ⟨rfl, y7⟩, if_pos y7]
      · rw [if_neg (fun u => y7 u.2), if_neg y7]
  have i7 : ∀ i, mI M46 (p + 7) i = if i = F then mI M Be 0 else mI M (p + 7) i := fun i => by
    rw [f46.2.2.2.2.2.2 _ (by omega), mI_ui _ i e41, iB]
    by_cases y : i = F
    · rw [if_pos ⟨rfl, y⟩, if_pos y]
    · rw [if_neg (fun u => y u.2), if_neg y, f33.2.2.2.2.2.2 _ (by omega), f23.2.2.2.2.2.2 _ (by omega), f16.2.2.2.2.2.2 _ (by omega)]
  have i8 : ∀ i, mI M46 (p + 8) i = if i = F then ((L : Nat) : Int) else mI M (p + 8) i := fun i => by
    rw [f46.2.2.2.2.2.2 _ (by omega), f41.2.2.2.2.2.2 _ (by omega), f33.2.2.2.2.2.2 _ (by omega), mI_ui _ i e23]
    by_cases y : i = F
    · rw [if_pos ⟨rfl, y⟩, if_pos y]
    · rw [if_neg (fun u => y u.2), if_neg y, f16.2.2.2.2.2.2 _ (by omega)]
  have iA : mI M23 Ab 0 = mI M Ab 0 := by rw [f23.2.2.2.2.2.2 _ Bp.2.2.2.2.2, f16.2.2.2.2.2.2 _ Bp.2.2.2.2.1]
  have i6 : ∀ i, mI M46 (p + 6) i = if i = F then mI M Ab 0 else mI M (p + 6) i := fun i => by
    rw [f46.2.2.2.2.2.2 _ (by omega), f41.2.2.2.2.2.2 _ (by omega), mI_ui _ i e33, iA]
    by_cases y : i = F
    · rw [if_pos ⟨rfl, y⟩, if_pos y]
    · rw [if_neg (fun u => y u.2), if_neg y, f23.2.2.2.2.2.2 _ (by omega), f16.2.2.2.2.2.2 _ (by omega)]
  have nb : ∀ b, b ≠ p → b ≠ p + 6 → b ≠ p + 7 → b ≠ p + 8 → mI M46 b = mI M b := fun b b1 b2 b3 b4 => ff.2.2.2.2.2.2 b (fun y => by
    have y' : b = p ∨ b = p + 6 ∨ b = p + 7 ∨ b = p + 8 := y
    omega)
  have fx : FI (txS q p O P) M M46 := ff.mono (fun b y => by
    have y' : b = p ∨ b = p + 6 ∨ b = p + 7 ∨ b = p + 8 := y
    show (q ≤ b ∧ b ≤ q + 10) ∨ b = q + 21 ∨ b = q + 22 ∨ b = p ∨ (p + 3 ≤ b ∧ b ≤ p + 15) ∨ b = O ∨ b = P
    omega)
  exact sn_mono (x_sn_fin h h0 h60 hb hn h8 hLa ha han hd hf o46 fx ip i7 i8 nb i6 ct hl hc72 hv gv) hQ
theorem x_sn_formula (h : TX M z q w T A B D N C n p O P K Ab Be Cm V F ns sf ef c cnt L) (h0 : mI M (q + 1) 3 = 0) (h60 : F < 60) (cd : Cod M O P V F ns L e H 1) (hn : mI M q 3 = ((nw : Nat) : Int) ∧ nw < n ∧ mI M A nw = 2) (h8 : mI M q 8 = 0 ∨ mI M q 8 = 1) (hp : mI M p 2 = ((e + 1 : Nat) : Int)) (hLa : e + 1 ≤ a) (ha : mI M (q + 1) 2 = ((a : Nat) : Int)) (han : a ≤ n) (hd : mI M (q + 1) 5 = 0) (e50 : M1 = mUI M p 7 ((F : Int) + 1)) (e57 : M2 = mUI M1 (p + 8) F ((L : Nat) : Int)) (ct : CT M (q + 1) p nms) (hl : nms.length = c) (hc72 : c < 72) : h_TR_settleNamed_115 G (d + 5) q 7 F M2 (fun M9 => itE M z q w T A B D N C n p O P K Ab Be Cm M9 ∧ snY M q p F nms (nw, 2, mI M q 8, (0, 0, 1)) M9) := by
  have f50 : FI (fun b => b = p) M M1 := by rw [e50]; exact FI.ui rfl
  have f57 : FI (fun b => b = p + 8) M1 M2 := by rw [e57]; exact FI.ui rfl
  have ff : FI (fun b => b = p ∨ b = p + 8) M M2 := (f50.mono (fun _ y => Or.inl y)).trans (f57.mono (fun _ y => Or.inr y))
  have hLe : L ≤ e := cd.2.2.2.2.2
  have hN : n ≤ 16384 := by have := h.1.1.2.2.2.1.2.2.1; have := h.1.1.2.2.2.1.1.2.2.2.2.2.2.1; omega
  have o57 : mOk M2 := by rw [e57]; exact mOk_UI (by rw [e50]; exact mOk_UI h.1.1.1 ⟨by omega, by omega⟩) ⟨by omega, by omega⟩
  have ip : ∀ i, mI M2 p i = if i = 7 then (F : Int) + 1 else mI M p i := fun i => by
    rw [f57.2.2.2.2.2.2 p (by omega), mI_ui p i e50]
    by_cases y7 : i = 7
    · rw [if_pos ⟨rfl, y7⟩, if_pos y7]
    · rw [if_neg (fun u => y7 u.2), if_neg y7]
  have i8 : ∀ i, mI M2 (p + 8) i = if i = F then ((L : Nat) : Int) else mI M (p + 8) i := fun i => by
    rw [mI_ui _ i e57]
    by_cases y : i = F
    · rw [if_pos ⟨rfl, y⟩, if_pos y]
    · rw [if_neg (fun u => y u.2), if_neg y, f50.2.2.2.2.2.2 _ (by omega)]
  have nb : ∀ b, b ≠ p → b ≠ p + 8 → mI M2 b = mI M b := fun b b1 b2 => ff.2.2.2.2.2.2 b (fun y => y.elim b1 b2)
  have fx : FI (txS q p O P) M M2 := ff.mono (fun b y => by
    have y' : b = p ∨ b = p + 8 := y
    show (q ≤ b ∧ b ≤ q + 10) ∨ b = q + 21 ∨ b = q + 22 ∨ b = p ∨ (p + 3 ≤ b ∧ b ≤ p + 15) ∨ b = O ∨ b = P
    omega)
  have nO : mI M2 O = mI M O ∧ mI M2 P = mI M P ∧ (∀ i, i ≤ 10 → mI M2 (q + i) = mI M (q + i)) ∧ (∀ i, 9 ≤ i → i ≤ 15 → mI M2 (p + i) = mI M (p + i)) := by
    have ap := h.1.apart
    have qp := h.1.2.2.2.2.2.1.2.1
    clear h h0 hn h8 ha hd ip i8 fx f50 f57 ff cd
    exact ⟨nb O (by omega) (by omega), nb P (by omega) (by omega), fun i hi => nb _ (by omega) (by omega), fun i h9 h15 => nb _ (by omega) (by omega)⟩
  have h57 := tx_name (l1 := 7) (e := e) (H := H) (L' := e + 1) h h0 h60 o57 fx (fun i hi => by rw [show q + 1 + i = q + (1 + i) by omega]; exact nO.2.2.1 _ (by omega)) (fun i y2 y7 => by rw [ip, if_neg y7]) (by rw [ip, if_pos rfl]; rfl) nO.2.2.2 (fun i hi => by rw [nb (p + 7) (by omega) (by omega)]) (fun i hi => by rw [i8, if_neg (Nat.ne_of_lt hi)]) (fun i _ => ⟨by rw [nO.1], by rw [nO.2.1]⟩) (Nat.le_succ_of_le hLe) (Or.inr ⟨rfl, by rw [i8, if_pos rfl], cd.cg (fun i _ => by rw [nO.1]) (fun i _ => by rw [nO.2.1]), Nat.lt_succ_self _⟩)
  have wA := (h.1.words fx).1
  have n0 := nO.2.2.1 0 (by omega)
  have n1 := nO.2.2.1 1 (by omega)
  rw [Nat.add_zero] at n0
  have r6 : ∀ i, i ≤ 9 → mI M2 (q + 1 + i) = mI M (q + 1 + i) := fun i hi => by rw [show q + 1 + i = q + (1 + i) by omega]; exact nO.2.2.1 _ (by omega)
  have ct' : CT M2 (q + 1) p nms := ct.cg (by rw [n1]) (r6 6 (by omega)) (r6 7 (by omega)) (r6 8 (by omega)) (r6 9 (by omega)) (nb _ (by omega) (by omega)) (nb _ (by omega) (by omega))
  exact x_sn115 (e9 := (nw, 2, mI M q 8, (0, 0, 1))) (nms := nms) (Or.inr rfl) h57 h60 ⟨by rw [n0]; exact hn.1, hn.2.1, by rw [wA]; exact hn.2.2⟩ (by rw [n0]; exact h8) (by rw [ip, if_neg (by decide)]; exact hp) (by rw [n1]; exact ha) han hLa (by rw [n1]; exact hd) (trF.fi fx) ct' hl hc72 rfl rfl ⟨by simp, by simp⟩ (by rw [n0]) (fun u => absurd u (by simp)) (fun M9 e1 e2 e3 e4 => ⟨e1, e2, fun i hi => by rw [e3 i hi, n1], fun i hi => by rw [e4, ip]⟩)
end TXK
end
