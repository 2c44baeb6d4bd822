section
section
/-! The class's reader of texts, exactly: consts and formulas. -/
section TXD
variable {G : mG} {d z q w T A B D N C n p O P K Ab Be Cm V F c s L L' cnt Bn a d0 V1 F1 nw : Nat} {M0 M M' M1 M2 : mM} {ns ns' ns1 : Nat → Int} {sf ef sf' ef' : Nat → Nat} {H : Nat → Nat} {S R : Nat → Prop} {W pl nq : Nat → Int} {sm : Nat → Nat → Prop} {nms : List nm9} {ft : Int × Int} {zz zr : List Int}
theorem FT.un {r : Nat} {y : Int × Int} (h : FT M r (fst9 y (0, 0))) : FT M r y := by
  by_cases c : y.1 = 0
  · rw [show fst9 y (0, 0) = (0, 0) from if_pos c] at h
    exact ⟨by rw [h.1, c], fun z => absurd c z⟩
  · rw [show fst9 y (0, 0) = y from if_neg c] at h
    exact h
theorem ECq.to {E : Nat → Int} {Cf : Nat → Int × Int} {co : Int} (h : ECq M' (q + 1) p n W nq sm nms c co E Cf) (f : txE M q p O P s M') : ECq M (q + 1) p n W nq sm nms c co E Cf := by
  obtain ⟨h1, h2⟩ := h
  refine ⟨h1, fun ct hl => ?_⟩
  have k := h2 (ct.tx f) hl
  obtain ⟨-, -, f4, -⟩ := f
  rw [f4 7 (by omega) (by omega), f4 8 (by omega) (by omega)] at k
  exact k
theorem hz34 : ∀ j, lwx (W j) = 3 → Rf W [34, 50] j j := fun j hj => Rf.of (mst_tn (by decide) (fun u => by
  rw [← u] at hj
  exact absurd hj (by decide)))
/-- an item's last rule and its ';', exactly: the rule from word a on, the fault ft before it -/
def ndV (W pl nq : Nat → Int) (sm : Nat → Nat → Prop) (M : mM) (q p O P n c L a : Nat) (nms : List nm9) (co : Int) (ft : Int × Int) (x : Int) (M' : mM) : Prop := ∃ a' : Nat, mI M' (q + 1) 2 = a' ∧ ((x = 0 ∧ Rf W [50] 0 a') ∨ (x = 1 ∧ ∃ (e : Nat) (E : Nat → Int) (Cf : Nat → Int × Int) (L' : Nat), a' = e + 1 ∧ Eo W 6 a e ∧ W e = 34 ∧ Rc W [50] 0 [50] (e + 1) ∧ ECq M (q + 1) p n W nq sm nms c co E Cf ∧ mI M' q 8 = kdq W E 0 a e ∧ FT M' (q + 1) (fst9 ft (fl W E pl 0 a e)) ∧ mI M' p 2 = ((L' + 1 : Nat) : Int) ∧ mI M' O L' = 0 ∧ Cd W Cf pl (mI M' O) (mI M' P) 0 0 0 a e L L' ∧ txF M q p O P L M' ∧ mI M' q 3 = mI M q 3))
theorem x_nd_tail {l1 : Int} (f0 : FI (txS q p O P) M0 M) (h : TX M z q w T A B D N C n p O P K Ab Be Cm V F ns sf ef c cnt L) (ha : mI M (q + 1) 2 = ((a : Nat) : Int)) (han : a ≤ n) (hs : mI M p 2 = ((L : Nat) : Int)) (hsa : L ≤ a) (hd : mI M (q + 1) 5 = ((0 : Nat) : Int)) (nk : NK M (q + 1) A n (vco l1 V) F (nco l1 ns) c) (hn : mI M q 3 = ((nw : Nat) : Int) ∧ nw < n ∧ mI M A nw = 2) (hY : 60 ≤ F → mI M (q + 1) 3 ≠ 0) (wt : WTq M T A B D n W pl nq sm) (hF : FT M (q + 1) ft) (hR : Rc W [50] 0 [61, 34, 50] a) : Ci G y_TR_readItemRule (d + 5) [vr q, vi 0, vi 0] M (fun x32 M31 => i32 x32 ∧ mOk M31 ∧ (((x32 = 0) → (ndQ M0 z q w T A B D N C n p O P K Ab Be Cm V F ns sf ef c cnt L l1 0 M31 ∧ ndV W pl nq sm M q p O P n c L a nms (mI M (q + 1) 6) ft 0 M31)) ∧ (¬ (x32 = 0) → (mK M31 q = 3 ∧ mK M31 (mR M31 q 0) = 4 ∧ Ci G y_RR_isTruth (d + 5) [vr (mR M31 q 0)] M31 (fun x39 M38 => i32 x39 ∧ mOk M38 ∧ (mK M38 q = 3 ∧ (x39 = 0 ∨ x39 = 1) ∧ ∀ M43, M43 = mUI M38 q 8 x39 → mK M43 (mR M43 q 0) = 4 ∧ Ci G y_RR_accept (d + 5) [vr (mR M43 q 0), vi 35] M43 (fun x47 M46 => i32 x47 ∧ mOk M46 ∧ ((x47 = 0 ∨ x47 = 1) ∧ ndQ M0 z q w T A B D N C n p O P K Ab Be Cm V F ns sf ef c cnt L l1 x47 M46 ∧ ndV W pl nq sm M q p O P n c L a nms (mI M (q + 1) 6) ft x47 M46)))))))) := by
  obtain ⟨⟨np0, np1, -, -⟩, ⟨nO0, nO1, -, -, -⟩, nP0, nP1, -, -, -⟩ := h.1.ne
  obtain ⟨q01, q10, q210, q211, -⟩ := q_ne q
  refine (x_TR_readItemRule (k := 0) (d0 := 0) (nms := nms) (ft := ft) (zz := [34, 50]) (by omega) (i32s (by omega) (by omega)) h ha han hs (Nat.le_refl _) hsa hd (by omega) nk wt hF (by rw [hd]; rfl) hz34 hR).mono (fun x32 M31 k => ?_)
  clear nk
  obtain ⟨⟨h31, x31, ⟨-, q31, t31⟩, k31⟩, -, E, Cf, ec, a9, ea9, iv⟩ := k
  have i32' : i32 x32 := by
    clear h h31 x31 t31
    rcases k31 with u | u <;> rw [u.1] <;> exact ⟨by decide, by decide⟩
  refine ⟨i32', h31.1.1.1, fun y => ?_, fun y => ?_⟩
  · obtain ⟨-, u⟩ := k31.resolve_right (fun u => by rw [y] at u; exact absurd u.1 (by decide))
    refine ⟨⟨f0.trans x31.1, Or.inl ⟨rfl, h31, u⟩⟩, a9, ea9, Or.inl ⟨rfl, ?_⟩⟩
    rcases iv with ⟨-, iv⟩ | ⟨iv, -⟩
    · exact iv
    · rw [y] at iv; exact absurd iv (by decide)
  obtain ⟨-, e, H, a', cd, p31, a31, aa, an, ea, d31⟩ := k31.resolve_left (fun u => y u.1)
  clear k31
  obtain ⟨-, L9, v1, v2, v3, v4, v5, v6, v7⟩ := iv.resolve_left (fun u => y u.1)
  have ea9' : a' = a9 := by rw [a31] at ea9; omega
  subst ea9'
  have v5 : FT M31 (q + 1) (fst9 ft (fl W E pl 0 a a')) := by
    unfold kft at v5
    rw [if_pos (Or.inl rfl)] at v5
    exact v5.un
  have wt31 : WTq M31 T A B D n W pl nq sm := wt.fi h.1 x31.1
  rw [h31.1.2.1.2.1]
  refine ⟨h31.1.2.1.1, h31.1.1.2.1.1, (x_RR_isTruth h31.1.1 h31.2.1.2.2.2).mono (fun x39 M38 k => ?_)⟩
  obtain ⟨e38, hx39, ex39⟩ := k
  subst e38
  have i39 : i32 x39 := m_b32 hx39
  refine ⟨i39, h31.1.1.1, h31.1.2.1.1, hx39, fun M43 e43 => ?_⟩
  obtain ⟨h43, x43, g43⟩ := tx_ui h31 i39 e43 (Or.inl rfl)
  have gg : ∀ b, b ≠ q → mI M43 b = mI M38 b := fun b hb => by
    funext i
    rw [g43, if_neg (fun u => hb u.1)]
  rw [h43.1.2.1.2.1]
  refine ⟨h43.1.1.2.1.1, (x_tx_accept (x := 35) (i32s (by omega) (by omega)) (by omega) h43 (by rw [gg _ q10]; exact a31) an).mono (fun x47 M46 k => ?_)⟩
  obtain ⟨i47, o46, hx47, h46, x46, k46, r46, b46, n46⟩ := k
  have wt43 : WTq M43 T A B D n W pl nq sm := wt31.fi h31.1 x43.1
  refine ⟨i47, o46, hx47, ?_⟩
  rcases k46 with ⟨e1, eA, a46, an46⟩ | ⟨e1, e2⟩
  · have w34 : W a' = 34 := (wt43.is (by omega) (by omega) (by omega)).mp eA
    have rc := rc_t v7 w34 (by decide)
    have key : ndV W pl nq sm M q p O P n c L a nms (mI M (q + 1) 6) ft x47 M46 := by
      refine ⟨a' + 1, a46, Or.inr ⟨e1, a', E, Cf, L9, rfl, v3, w34, rc, ec, ?_, ?_, ?_, ?_, ?_, (x31.trans x43).trans x46, by rw [b46 q q01, g43, if_neg (fun u => absurd u.2 (by decide)), q31]⟩⟩
      · rw [b46 q q01, g43, if_pos ⟨rfl, rfl⟩, ex39]; exact v4
      · exact v5.same (by rw [r46 3 (by decide), gg _ q10]) (by rw [r46 4 (by decide), gg _ q10])
      · rw [b46 p np1, gg p np0]; exact v1
      · rw [b46 O nO1, gg O nO0]; exact v2
      · exact v6.cg (fun t _ _ => ⟨by rw [b46 O nO1, gg O nO0], by rw [b46 P nP1, gg P nP0]⟩)
    refine ⟨?_, key⟩
    refine ⟨((f0.trans x31.1).trans x43.1).trans x46.1, Or.inr ⟨e1, h46, fun y60 => x46.2.2.1 (x43.2.2.1 (x31.2.2.1 (hY y60))), e, a' + 1, nw, H, ?_, ?_, a46, an46, Nat.succ_le_succ ea, ?_, ?_, hn.2.1, ?_, ?_, ?_⟩⟩
    · exact cd.cg (fun i _ => by rw [b46 O nO1, gg O nO0]) (fun i _ => by rw [b46 P nP1, gg P nP0])
    · rw [b46 p np1, gg p np0]; exact p31
    · rw [r46 5 (by decide), gg _ q10, d31]; exact hd
    · rw [b46 q q01, g43, if_neg (fun u => absurd u.2 (by decide)), q31]; exact hn.1
    · rw [(h43.1.words x46.1).1, (h31.1.words x43.1).1, (h.1.words x31.1).1]; exact hn.2.2
    · rw [b46 q q01, g43, if_pos ⟨rfl, rfl⟩]; exact hx39
    · rw [b46 _ q211, gg _ q210, t31, if_pos rfl]
  · rw [e2]
    exact ⟨⟨(f0.trans x31.1).trans x43.1, Or.inl ⟨e1, h43, a', by rw [gg _ q10]; exact a31, an⟩⟩, a', by rw [gg _ q10]; exact a31, Or.inl ⟨e1, rf_t v7 (fun u => n46 e1 ((wt43.is (by omega) (by omega) (by omega)).mpr u)) (by decide)⟩⟩
/-- a const or formula, exactly: its first word a -/
def nmV (W pl nq : Nat → Int) (sm : Nat → Nat → Prop) (M : mM) (q p O P n c F L a : Nat) (nms : List nm9) (co : Int) (ft : Int × Int) (x : Int) (M' : mM) : Prop := ∃ a' : Nat, mI M' (q + 1) 2 = a' ∧ ((x = 0 ∧ Rf W [50] 0 a') ∨ (x = 1 ∧ (W (a + 1) = 1 ∧ W (a + 2) = 23) ∧ ∃ (e : Nat) (E : Nat → Int) (Cf : Nat → Int × Int) (L' : Nat) (f2 : Int × Int), a' = e + 1 ∧ Eo W 6 (a + 3) e ∧ W e = 34 ∧ Rc W [50] 0 [50] (e + 1) ∧ ECq M (q + 1) p n W nq sm nms c co E Cf ∧ mI M' q 8 = kdq W E 0 (a + 3) e ∧ (CT M (q + 1) p nms → nms.length = c → knf sm pl nms (a + 1) f2) ∧ FT M' (q + 1) (fst9 (fst9 (fst9 ft (if F < 60 then (0, 0) else (5, pl a))) f2) (fl W E pl 0 (a + 3) e)) ∧ mI M' p 2 = ((L' + 1 : Nat) : Int) ∧ mI M' O L' = 0 ∧ Cd W Cf pl (mI M' O) (mI M' P) 0 0 0 (a + 3) e L L' ∧ txF M q p O P L M' ∧ mI M' q 3 = ((a + 1 : Nat) : Int)))
theorem x_TR_readNamed {l1 : Int} (h4 : l1 = 4 ∨ l1 = 7) (h : TX M z q w T A B D N C n p O P K Ab Be Cm V F ns sf ef c cnt L) (ha : mI M (q + 1) 2 = a) (han : a < n) (hs : mI M p 2 = L) (hsa : L ≤ a) (hd : mI M (q + 1) 5 = 0) (wt : WTq M T A B D n W pl nq sm) (hF : FT M (q + 1) ft) (hW : W a = 3 ∨ W a = 6) (hR : Rc W [50] 0 [50] a) : Ci G y_TR_readNamed (d + 6) [vr q, vi l1] M (fun x M' => ndQ M z q w T A B D N C n p O P K Ab Be Cm V F ns sf ef c cnt L l1 x M' ∧ nmV W pl nq sm M q p O P n c F L a nms (if l1 = 4 then 1 else 0) ft x M') := by
  obtain ⟨⟨np0, np1, -, -⟩, -, -⟩ := h.1.ne
  obtain ⟨q01, q10, q210, q211, -⟩ := q_ne q
  have ok := h.1.1.1
  have rc1 : Rc W [50] 0 [1, 23, 61, 34, 50] (a + 1) := by
    refine (hR.trans (Rc.one (mst_n (by decide) (by decide) (ys := [51, 34, 50]) (t := 1) ?_ (Or.inl (by decide))))).trans (Rc.one (mst_n (r := [34, 50]) (by decide) (by decide) (ys := [1, 23, 61]) (t := 0) rfl (Or.inl (by decide))))
    rw [ex_50]
    unfold ex50
    rw [if_neg (by omega), if_pos hW]
  obtain ⟨t0, t1, t2, t3, t4, t5⟩ := h.1.2.1
  refine k_TR_readNamed ok (i32s (by omega) (by omega)) ⟨t0, fun v3 e3 => ?_⟩
  have b3 : v3 = 0 ∨ v3 = 1 := by rw [e3]; split <;> omega
  rw [t1]
  refine ⟨h.1.1.2.1.1, fun M9 e9 => ?_⟩
  obtain ⟨h9, x9, g9⟩ := tx_ui h (m_b32 b3) e9 (Or.inr (Or.inr (Or.inr (Or.inl ⟨rfl, Or.inr (Or.inr rfl)⟩))))
  rw [h9.1.2.1.2.2.2.1]
  refine ⟨h9.1.1.2.2.2.2.1.1, fun v13 e13 => ?_⟩
  have b13 : v13 = 0 ∨ v13 = 1 := by rw [e13]; split <;> omega
  have f9 := h9.2.1.2.1.1
  have y13 : 60 ≤ F → v13 ≠ 0 := fun y => by rw [e13, if_neg (by omega)]; decide
  refine (x_TR_readName (a := a) (nms := nms) (m_b32 b13) h9 (by rw [g9, if_neg (fun u => absurd u.2 (by decide))]; exact ha) han (wt.fi h.1 x9.1) (hF.same (by rw [g9, if_neg (fun u => absurd u.2 (by decide))]) (by rw [g9, if_neg (fun u => absurd u.2 (by decide))])) rc1).mono (fun x19 M18 k => ?_)
  obtain ⟨⟨h18, x18, n18, y18, k18⟩, a9, ea9, rv⟩ := k
  have wt18 : WTq M18 T A B D n W pl nq sm := (wt.fi h.1 x9.1).fi h9.1 x18.1
  have ev13 : (if v13 = 0 then ((0 : Int), (0 : Int)) else (5, pl a)) = if F < 60 then (0, 0) else (5, pl a) := by
    rw [e13, f9]
    by_cases u : F < 60
    · rw [if_pos u, if_pos (by omega)]
    · rw [if_neg u, if_neg (by omega)]
  rw [ev13] at rv
  have i19 : i32 x19 := by rcases k18 with u | u <;> rw [u.1] <;> exact ⟨by decide, by decide⟩
  refine ⟨i19, h18.1.1.1, fun y => ?_, fun y => ?_⟩
  · obtain ⟨-, u⟩ := k18.resolve_right (fun u => by rw [y] at u; exact absurd u.1 (by decide))
    refine ⟨⟨x9.1.trans x18.1, Or.inl ⟨rfl, h18, u⟩⟩, a9, ea9, Or.inl ⟨rfl, ?_⟩⟩
    rcases rv with ⟨-, rv⟩ | ⟨rv, -⟩
    · exact rv
    · rw [y] at rv; exact absurd rv (by decide)
  obtain ⟨-, a18, a2n, q18, A18⟩ := k18.resolve_left (fun u => y u.1)
  clear k18
  obtain ⟨-, ea2, w1, rc2, f2, F18, kn⟩ := rv.resolve_left (fun u => y u.1)
  have kn : CT M (q + 1) p nms → nms.length = c → knf sm pl nms (a + 1) f2 := fun ct hl => kn (ct.tx x9.2) hl
  rw [h18.1.2.1.2.1]
  refine ⟨h18.1.2.1.1, h18.1.1.2.1.1, (x_tx_accept (x := 24) (i32s (by omega) (by omega)) (by omega) h18 a18 a2n).mono (fun x26 M25 k => ?_)⟩
  obtain ⟨i26, o25, -, h25, x25, k25, r25, b25, n25⟩ := k
  refine ⟨i26, o25, fun y => ?_, fun y => ?_⟩
  · have e := (k25.resolve_left (fun u => by rw [y] at u; exact absurd u.1 (by decide))).2
    rw [e]
    exact ⟨⟨x9.1.trans x18.1, Or.inl ⟨rfl, h18, _, a18, a2n⟩⟩, a + 2, a18, Or.inl ⟨rfl, rf_t rc2 (fun u => n25 y ((wt18.is (by omega) (by omega) (by omega)).mpr u)) (by decide)⟩⟩
  obtain ⟨-, eA, a25, a3n⟩ := k25.resolve_right (fun u => y u.1)
  clear k25
  have w23 : W (a + 2) = 23 := (wt18.is (by omega) (by omega) (by omega)).mp eA
  have rc3 := rc_t rc2 w23 (by decide)
  have wt25 : WTq M25 T A B D n W pl nq sm := wt18.fi h18.1 x25.1
  have F25 : FT M25 (q + 1) (fst9 (fst9 ft (if F < 60 then (0, 0) else (5, pl a))) f2) := F18.same (r25 3 (by decide)) (r25 4 (by decide))
  have c25 : mI M25 (q + 1) 6 = v3 := by rw [r25 6 (by decide), n18.1 6 (by decide) (by decide) (by decide), g9, if_pos ⟨rfl, rfl⟩]
  have p25 : mI M25 p 2 = L := by rw [b25 p np1, n18.2.2 p np0 np1, g9, if_neg (fun u => np1 u.1)]; exact hs
  have d25 : mI M25 (q + 1) 5 = ((0 : Nat) : Int) := by rw [r25 5 (by decide), n18.1 5 (by decide) (by decide) (by decide), g9, if_neg (fun u => absurd u.2 (by decide))]; exact hd
  have nk : NK M25 (q + 1) A n (vco l1 V) F (nco l1 ns) c := by
    unfold vco nco
    by_cases y4 : l1 = 4
    · rw [if_pos y4, if_pos y4]
      rw [if_pos y4] at e3
      exact h25.2.1.2.2.1.nkc (by rw [c25, e3]; decide)
    · rw [if_neg y4, if_neg y4]
      exact h25.2.1.2.2.1.nk
  refine ⟨h25.1.2.1.1, (x_nd_tail (nms := nms) ((x9.1.trans x18.1).trans x25.1) h25 a25 a3n p25 (by omega) d25 nk ⟨by rw [b25 q q01]; exact q18, by omega, by rw [(h18.1.words x25.1).1]; exact A18⟩ (fun y => x25.2.2.1 (y18 (y13 y))) wt25 F25 rc3).mono (fun x32 M31 k => ?_)⟩
  have e6 : mI M25 (q + 1) 6 = if l1 = 4 then 1 else 0 := by rw [c25, e3]
  rw [e6] at k
  have up : ∀ {x : Int} {M9 : mM}, ndV W pl nq sm M25 q p O P n c L (a + 3) nms (if l1 = 4 then 1 else 0) (fst9 (fst9 ft (if F < 60 then (0, 0) else (5, pl a))) f2) x M9 → nmV W pl nq sm M q p O P n c F L a nms (if l1 = 4 then 1 else 0) ft x M9 := fun {x M9} hv => by
    obtain ⟨a', e1, hv⟩ := hv
    refine ⟨a', e1, ?_⟩
    rcases hv with hv | ⟨hx, e, E, Cf, L9, j1, j2, j3, j4, j5, j6, j7, j8, j9, j10, j11, j12⟩
    · exact Or.inl hv
    · exact Or.inr ⟨hx, ⟨w1, w23⟩, e, E, Cf, L9, f2, j1, j2, j3, j4, ((j5.to x25.2).to x18.2).to x9.2, j6, kn, j7, j8, j9, j10, ((x9.trans x18).trans x25).trans j11, by rw [j12, b25 q q01]; exact q18⟩
  refine ⟨k.1, k.2.1, fun y => ?_, fun y => ?_⟩
  · obtain ⟨q1, q2⟩ := k.2.2.1 y
    exact ⟨q1, up q2⟩
  · obtain ⟨q1, q2, q3⟩ := k.2.2.2 y
    refine ⟨q1, q2, q3.mono (fun x39 M38 u => ⟨u.1, u.2.1, u.2.2.1, u.2.2.2.1, fun M43 e43 => ?_⟩)⟩
    obtain ⟨z1, z2⟩ := u.2.2.2.2 M43 e43
    exact ⟨z1, z2.mono (fun x47 M46 v => ⟨v.1, v.2.1, v.2.2.1, v.2.2.2.1, up v.2.2.2.2⟩)⟩
end TXD
end
section
/-! The class's reader of texts, exactly: the target. -/
section TXE
variable {G : mG} {d z q w T A B D N C n p O P K Ab Be Cm V F c s L L' cnt Bn a d0 V1 F1 nw : Nat} {M0 M M' M1 M2 Mc : mM} {ns ns' ns1 : Nat → Int} {sf ef sf' ef' : Nat → Nat} {H : Nat → Nat} {S R : Nat → Prop} {W pl nq : Nat → Int} {sm : Nat → Nat → Prop} {nms : List nm9} {ft : Int × Int} {zz zr : List Int}
/-- names and counts stay -/
def tgK (q p : Nat) (M M' : mM) : Prop := mI M' (q + 1) 19 = mI M (q + 1) 19 ∧ (∀ i, 6 ≤ i → i ≤ 9 → mI M' (q + 1 + i) = mI M (q + 1 + i)) ∧ (∀ i, i ≠ 2 → i ≠ 11 → mI M' p i = mI M p i) ∧ mI M' (p + 6) = mI M (p + 6) ∧ mI M' (p + 7) = mI M (p + 7)
theorem tgK.trans (h : tgK q p M M1) (k : tgK q p M1 M2) : tgK q p M M2 := ⟨k.1.trans h.1, fun i i6 i9 => (k.2.1 i i6 i9).trans (h.2.1 i i6 i9), fun i i2 i1 => (k.2.2.1 i i2 i1).trans (h.2.2.1 i i2 i1), k.2.2.2.1.trans h.2.2.2.1, k.2.2.2.2.trans h.2.2.2.2⟩
theorem tgK.tx (f : txE M q p O P s M') : tgK q p M M' := ⟨f.1 19 (by decide) (by decide) (by decide) (by decide) (by decide) (by decide) (by decide) (by decide), f.2.2.1, fun i i2 _ => f.2.2.2.1 i i2, f.2.2.2.2.1 6 (by decide) (by decide), f.2.2.2.2.1 7 (by decide) (by decide)⟩
theorem CT.tg (ct : CT M (q + 1) p nms) (k : tgK q p M M') : CT M' (q + 1) p nms := ct.cg k.1 (k.2.1 6 (by decide) (by decide)) (k.2.1 7 (by decide) (by decide)) (k.2.1 8 (by decide) (by decide)) (k.2.1 9 (by decide) (by decide)) k.2.2.2.1 k.2.2.2.2
/-- a target's orders lie from the code's end on -/
def tgD (W pl : Nat → Int) (Cf : Nat → Int × Int) (p O P L a e : Nat) (M M' : mM) : Prop := mI M' p 11 = ((L : Nat) : Int) ∧ (∀ i, 3 ≤ i → i ≤ 15 → mI M' (p + i) = mI M (p + i)) ∧ ∃ L' : Nat, mI M' p 2 = ((L' + 1 : Nat) : Int) ∧ mI M' O L' = 0 ∧ Cd W Cf pl (mI M' O) (mI M' P) 0 0 0 (a + 1) e L L' ∧ cdE O P L M M'
/-- a target, exactly: the rule from word a + 1 on, the fault ft before it -/
def tgV (W pl nq : Nat → Int) (sm : Nat → Nat → Prop) (M : mM) (q p O P n c L a : Nat) (nms : List nm9) (ft : Int × Int) (x : Int) (M' : mM) : Prop := ∃ a' : Nat, mI M' (q + 1) 2 = a' ∧ ((x = 0 ∧ Rf W [50] 0 a') ∨ (x = 1 ∧ mI M' p 11 ≠ -1 ∧ ∃ (e : Nat) (E : Nat → Int) (Cf : Nat → Int × Int), a' = e + 1 ∧ Eo W 6 (a + 1) e ∧ W e = 34 ∧ Rc W [50] 0 [50] (e + 1) ∧ ECq M (q + 1) p n W nq sm nms c 0 E Cf ∧ FT M' (q + 1) (fst9 (fst9 ft (fl W E pl 0 (a + 1) e)) (kft (kdq W E 0 (a + 1) e = 1) (pl (a + 1)))) ∧ tgK q p M M' ∧ tgD W pl Cf p O P L a e M M'))
theorem x_rt8 (f0 : FI (txS q p O P) M0 M) (h : TX M z q w T A B D N C n p O P K Ab Be Cm V F ns sf ef c cnt L) (ha : mI M (q + 1) 2 = a) (han : a < n) (hs : mI M p 2 = L) (hsa : L ≤ a) (hd : mI M (q + 1) 5 = 0) (e8 : M1 = mUI M (q + 1) 2 ((a : Int) + 1)) (e11 : M2 = mUI M1 (q + 1) 6 0) (hec : ∀ {E : Nat → Int} {Cf : Nat → Int × Int}, ECq M2 (q + 1) p n W nq sm nms c 0 E Cf → ECq Mc (q + 1) p n W nq sm nms c 0 E Cf) (hkm : tgK q p Mc M2) (hk2 : txF Mc q p O P L M2) (wt : WTq M T A B D n W pl nq sm) (hF : FT M (q + 1) ft) (hW : W a = 11) (hR : Rc W [50] 0 [50] a) : mOk M2 ∧ mK M1 (mR M1 q 0) = 4 ∧ mR M1 q 0 = q + 1 ∧ Ci G y_TR_readItemRule (d + 5) [vr q, vi 0, vi 2] M2 (fun x14 M13 => i32 x14 ∧ mOk M13 ∧ (((x14 = 0) → (tgQ M0 z q w T A B D N C n p O P K Ab Be Cm V F ns sf ef c cnt L 0 M13 ∧ tgV W pl nq sm Mc q p O P n c L a nms ft 0 M13)) ∧ (¬ (x14 = 0) → (mK M13 q = 3 ∧ mK M13 (mR M13 q 5) = 30 ∧ ((0 : Int) ≤ 0 ∧ 0 < (mN M13 (mR M13 q 5) : Int)) ∧ mK M13 (mR M13 q 2) = 6 ∧ ∀ M22, M22 = mUI M13 (mR M13 q 2) 11 (mI M13 (mR M13 q 5) 0) → mK M22 (mR M22 q 0) = 4 ∧ Ci G y_RR_accept (d + 5) [vr (mR M22 q 0), vi 35] M22 (fun x26 M25 => i32 x26 ∧ mOk M25 ∧ ((x26 = 0 ∨ x26 = 1) ∧ tgQ M0 z q w T A B D N C n p O P K Ab Be Cm V F ns sf ef c cnt L x26 M25 ∧ tgV W pl nq sm Mc q p O P n c L a nms ft x26 M25)))))) := by
  have ap := h.1.apart
  have qp := h.1.2.2.2.2.2.1.2.1
  have ok := h.1.1.1
  have rc1 : Rc W [50] 0 [61, 34, 50] (a + 1) := by
    refine hR.trans (Rc.one (mst_n (by decide) (by decide) (ys := [61, 34, 50]) (t := 1) ?_ (Or.inl (by decide))))
    rw [ex_50]
    unfold ex50
    rw [if_neg (by omega), if_neg (by omega), if_neg (by omega), if_neg (by omega), if_pos hW]
  have hN : n ≤ 16384 := by have := h.1.1.2.2.2.1.2.2.1; have := h.1.1.2.2.2.1.1.2.2.2.2.2.2.1; omega
  obtain ⟨h1, x1, g1⟩ := tx_ui h ⟨by omega, by omega⟩ e8 (Or.inr (Or.inr (Or.inr (Or.inl ⟨rfl, Or.inl rfl⟩))))
  obtain ⟨h2, x2, g2⟩ := tx_ui h1 (i32s (by omega) (by omega)) e11 (Or.inr (Or.inr (Or.inr (Or.inl ⟨rfl, Or.inr (Or.inr rfl)⟩))))
  have gb : ∀ b i, b ≠ q + 1 → mI M2 b i = mI M b i := fun b i hb => by rw [g2, if_neg (by omega), g1, if_neg (by omega)]
  have a2 : mI M2 (q + 1) 2 = ((a + 1 : Nat) : Int) := by rw [g2, if_neg (by omega), g1, if_pos ⟨rfl, rfl⟩]; omega
  have d2 : mI M2 (q + 1) 5 = ((0 : Nat) : Int) := by rw [g2, if_neg (by omega), g1, if_neg (by omega)]; exact hd
  refine ⟨h2.1.1.1, by rw [h1.1.2.1.2.1]; exact h1.1.1.2.1.1, h1.1.2.1.2.1, (x_TR_readItemRule (k := 0) (s := L) (d0 := 0) (nms := nms) (ft := ft) (zz := [34, 50]) (by omega) (i32s (by omega) (by omega)) h2 a2 (by omega) (by rw [gb p 2 (by omega)]; exact hs) (Nat.le_refl _) (by omega) d2 (by omega) h2.2.1.2.2.1.nk ((wt.fi h.1 x1.1).fi h1.1 x2.1) (hF.same (by rw [g2, if_neg (by omega), g1, if_neg (by omega)]) (by rw [g2, if_neg (by omega), g1, if_neg (by omega)])) (by rw [d2]; rfl) hz34 rc1).mono (fun x14 M13 k => ?_)⟩
  obtain ⟨⟨h13, x13, ⟨c13, q13, t13⟩, k13⟩, -, E, Cf, ec, a9, ea9, iv⟩ := k
  have e26 : mI M2 (q + 1) 6 = 0 := by rw [g2, if_pos ⟨rfl, rfl⟩]
  rw [e26] at ec
  have wt13 : WTq M13 T A B D n W pl nq sm := ((wt.fi h.1 x1.1).fi h1.1 x2.1).fi h2.1 x13.1
  have i14 : i32 x14 := by rcases k13 with u | u <;> rw [u.1] <;> exact i32s (by omega) (by omega)
  refine ⟨i14, h13.1.1.1, fun y => ?_, fun y => ?_⟩
  · obtain ⟨-, u⟩ := k13.resolve_right (fun u => by have := u.1; omega)
    refine ⟨⟨((f0.trans x1.1).trans x2.1).trans x13.1, Or.inl ⟨rfl, L, h13, u⟩⟩, a9, ea9, Or.inl ⟨rfl, ?_⟩⟩
    rcases iv with ⟨-, iv⟩ | ⟨iv, -⟩
    · exact iv
    · rw [y] at iv; exact absurd iv (by decide)
  obtain ⟨-, e, H, a', cd, p13, a13, aa, an, ea, d13⟩ := k13.resolve_left (fun u => y u.1)
  clear k13
  obtain ⟨-, L9, v1, v2, v3, v4, v5, v6, v7⟩ := iv.resolve_left (fun u => y u.1)
  clear iv
  have ea9' : a' = a9 := by rw [a13] at ea9; omega
  subst ea9'
  have v5 : FT M13 (q + 1) (fst9 (fst9 ft (fl W E pl 0 (a + 1) a')) (kft (kdq W E 0 (a + 1) a' = 1) (pl (a + 1)))) := by
    rw [show ((2 : Int) = 0 ∨ kdq W E 0 (a + 1) a' = if (2 : Int) = 2 then 1 else 0) = (kdq W E 0 (a + 1) a' = 1) from propext ⟨fun u => u.resolve_left (by decide), fun u => Or.inr u⟩] at v5
    exact v5
  obtain ⟨⟨np0, np1, np21, -⟩, ⟨nO0, nO1, -, -, nOp⟩, nP0, nP1, -, -, nPp⟩ := h13.1.ne
  have pn : ∀ i, 3 ≤ i → p + i ≠ p := fun i hi => by omega
  have qn : ∀ i, i ≤ 10 → q + i ≠ p := fun i hi => by omega
  obtain ⟨t0, t1, t2, t3, t4, t5⟩ := h13.1.2.1
  obtain ⟨s1, s2, s3, s4⟩ := h13.1.2.2.1
  rw [t3, t4, s3, t13, if_pos rfl]
  refine ⟨t0, s1, ⟨by omega, by omega⟩, h13.1.1.2.2.2.2.1.1, fun M22 e22 => ?_⟩
  have f22 : FI (txS q p O P) M13 M22 := by rw [e22]; exact FI.ui (Or.inr (Or.inr (Or.inr (Or.inl rfl))))
  have g22 : ∀ b i, mI M22 b i = if b = p ∧ i = 11 then (L : Int) else mI M13 b i := fun b i => mI_ui b i e22
  have gg : ∀ b, b ≠ p → mI M22 b = mI M13 b := fun b hb => by
    funext i
    rw [g22, if_neg (fun u => hb u.1)]
  have o22 : mOk M22 := by rw [e22]; exact mOk_UI h13.1.1.1 ⟨by omega, by omega⟩
  have hse : L ≤ e := cd.2.2.2.2.2
  have h22 : TX M22 z q w T A B D N C n p O P K Ab Be Cm V F ns sf ef c cnt (e + 1) := by
    refine ⟨h13.1.fi o22 f22, ?_, ?_⟩
    · obtain ⟨u1, u2, u3, u4⟩ := h13.2.1
      refine ⟨by rw [g22, if_neg (by omega)]; exact u1, by rw [g22, if_neg (by omega)]; exact u2, ?_, fun j => by rw [gg _ (by omega)]; exact u4 j⟩
      unfold TN at u3 ⊢
      rw [(h13.1.words f22).1, gg _ (by omega), gg _ (by omega), gg _ (by omega), gg _ (by omega), gg _ (by omega)]
      exact u3
    · obtain ⟨u1, u2⟩ := h13.2.2
      refine ⟨by rw [g22, if_neg (by omega)]; exact u1, fun y0 => ?_⟩
      rw [gg _ (qn 1 (by decide))] at y0
      obtain ⟨u, eu, gu⟩ := u2 y0
      obtain ⟨v1, v2, v3, v4, v5, v6, v7⟩ := gu.longer (L' := e + 1) (Nat.le_succ_of_le hse)
      have cg : ∀ {s h : Nat}, PC M13 O P V F ns ef (e + 1) s h → PC M22 O P V F ns ef (e + 1) s h := fun hc => hc.cg (fun i _ => by rw [gg O nOp]) (fun i _ => by rw [gg P nPp])
      refine ⟨u, by rw [gg _ (pn _ (by decide))]; exact eu, v1.cg (fun i _ => by rw [gg O nOp]) (fun i _ => by rw [gg P nPp]) (fun i _ => by rw [gg _ (pn _ (by decide))]) (fun i _ => by rw [gg _ (pn _ (by decide))]), Or.inr ⟨L, by rw [g22, if_pos ⟨rfl, rfl⟩], cg ⟨e, H, F, cd, Nat.lt_succ_self _, Nat.le_refl _, fun y hy h7 => ((gu.1 y hy).2 h7).2.2.1⟩⟩, fun j hj => ?_, by rw [gg _ (pn _ (by decide))]; exact v4, by rw [gg _ (pn _ (by decide))]; exact v5, by rw [gg _ (pn _ (by decide))]; exact v6, fun b hb => ?_⟩
      · obtain ⟨s, y1, y2⟩ := v3 j hj
        exact ⟨s, by rw [gg _ (pn _ (by decide))]; exact y1, cg y2⟩
      · obtain ⟨s1, s2, y1, y2, y3, y4⟩ := v7 b hb
        exact ⟨s1, s2, by rw [gg _ (pn _ (by decide))]; exact y1, cg y2, by rw [gg _ (pn _ (by decide))]; exact y3, cg y4⟩
  have a22 : mI M22 (q + 1) 2 = (a' : Int) := by rw [gg _ (by omega)]; exact a13
  rw [h22.1.2.1.2.1]
  refine ⟨h22.1.1.2.1.1, (x_tx_accept (x := 35) (i32s (by omega) (by omega)) (by omega) h22 a22 an).mono (fun x26 M25 k => ?_)⟩
  obtain ⟨i26, o25, hx26, h25, x25, k25, r25, b25, n25⟩ := k
  have wt22 : WTq M22 T A B D n W pl nq sm := wt13.fi h13.1 f22
  refine ⟨i26, o25, hx26, ?_⟩
  rcases k25 with ⟨e1, eA, a25, an25⟩ | ⟨e1, e2⟩
  · have w34 : W a' = 34 := (wt22.is (by omega) (by omega) (by omega)).mp eA
    have rc := rc_t v7 w34 (by decide)
    have key : tgV W pl nq sm Mc q p O P n c L a nms ft x26 M25 := by
      refine ⟨a' + 1, a25, Or.inr ⟨e1, by rw [b25 p (by first | (have h1 := qp; omega) | omega), g22, if_pos ⟨rfl, rfl⟩]; omega, a', E, Cf, rfl, v3, w34, rc, hec ec, v5.same (by rw [r25 3 (by decide), gg _ (by omega)]) (by rw [r25 4 (by decide), gg _ (by omega)]), ((hkm.trans (tgK.tx x13.2)).trans ⟨by rw [gg _ (by omega)], fun i _ i9 => gg _ (by omega), fun i _ i1 => by rw [g22, if_neg (fun u => i1 u.2)], gg _ (by omega), gg _ (by omega)⟩).trans (tgK.tx x25.2), ?_⟩⟩
      have xx := hk2.trans x13
      refine ⟨by rw [b25 p (by first | (have h1 := qp; omega) | omega), g22, if_pos ⟨rfl, rfl⟩], fun i i3 i15 => by rw [b25 _ (by omega), gg _ (by omega)]; exact xx.2.2.2.2.2.1 i i3 i15, L9, by rw [b25 p (by first | (have h1 := qp; omega) | omega), g22, if_neg (by omega)]; exact v1, by rw [b25 O (by first | (have h1 := ap.2.2.2.1; have h2 := ap.2.1; omega) | omega), gg O nOp]; exact v2, ?_, fun i hi => ?_⟩
      · exact v6.cg (fun t _ _ => ⟨by rw [b25 O (by first | (have h1 := ap.2.2.2.1; have h2 := ap.2.1; omega) | omega), gg O nOp], by rw [b25 P (by first | (have h1 := ap.2.2.2.2.1; have h2 := ap.2.2.1; omega) | omega), gg P nPp]⟩)
      · rw [b25 O (by first | (have h1 := ap.2.2.2.1; have h2 := ap.2.1; omega) | omega), gg O nOp, b25 P (by first | (have h1 := ap.2.2.2.2.1; have h2 := ap.2.2.1; omega) | omega), gg P nPp]
        exact xx.2.2.2.2.2.2 i hi
    refine ⟨?_, key⟩
    refine ⟨((((f0.trans x1.1).trans x2.1).trans x13.1).trans f22).trans x25.1, Or.inr ⟨e1, e + 1, a' + 1, h25, by rw [b25 p (by first | (have h1 := qp; omega) | omega), g22, if_neg (by omega)]; exact p13, a25, by omega, by omega, by rw [r25 5 (by decide), gg _ (by omega), d13, d2]; rfl⟩⟩
  · rw [e2]
    exact ⟨⟨(((f0.trans x1.1).trans x2.1).trans x13.1).trans f22, Or.inl ⟨e1, e + 1, h22, a', a22, an⟩⟩, a', a22, Or.inl ⟨e1, rf_t v7 (fun u => n25 e1 ((wt22.is (by omega) (by omega) (by omega)).mpr u)) (by decide)⟩⟩
theorem x_TR_readTarget (h : TX M z q w T A B D N C n p O P K Ab Be Cm V F ns sf ef c cnt L) (ha : mI M (q + 1) 2 = a) (han : a < n) (hs : mI M p 2 = L) (hsa : L ≤ a) (hd : mI M (q + 1) 5 = 0) (wt : WTq M T A B D n W pl nq sm) (hF : FT M (q + 1) ft) (hW : W a = 11) (hR : Rc W [50] 0 [50] a) : Ci G y_TR_readTarget (d + 6) [vr q] M (fun x M' => tgQ M z q w T A B D N C n p O P K Ab Be Cm V F ns sf ef c cnt L x M' ∧ tgV W pl nq sm M q p O P n c L a nms (fst9 ft (if mI M p 11 = -1 then (0, 0) else (4, pl a))) x M') := by
  have ap := h.1.apart
  have ok := h.1.1.1
  have hN : n ≤ 16384 := by have := h.1.1.2.2.2.1.2.2.1; have := h.1.1.2.2.2.1.1.2.2.2.2.2.2.1; omega
  obtain ⟨t0, t1, t2, t3, t4, t5⟩ := h.1.2.1
  refine k_TR_readTarget ok ?_
  rw [t1, t3, ha]
  refine ⟨t0, h.1.1.2.2.2.2.1.1, fun yt => ⟨h.1.1.2.1.1, ⟨by omega, by omega⟩, fun M8 e8 => ?_⟩, fun yt => ⟨h.1.1.2.1.1, (s_RR_here h.1.1 ha (by omega)).mono (fun x31 M30 k => ?_)⟩⟩
  · obtain ⟨h8, x8, g8⟩ := tx_ui h ⟨by omega, by omega⟩ e8 (Or.inr (Or.inr (Or.inr (Or.inl ⟨rfl, Or.inl rfl⟩))))
    have k4 := (s_rt8 h han e8).1
    have kr := (s_rt8 h han e8).2
    refine ⟨k4, fun M11 e11 => ?_⟩
    rw [kr] at e11
    obtain ⟨h11, x11, g11⟩ := tx_ui h8 (i32s (by omega) (by omega)) e11 (Or.inr (Or.inr (Or.inr (Or.inl ⟨rfl, Or.inr (Or.inr rfl)⟩))))
    rw [if_pos yt]
    exact (x_rt8 (Mc := M) (nms := nms) FI.refl h ha han hs hsa hd e8 e11 (fun k => (k.to x11.2).to x8.2) ((tgK.tx x8.2).trans (tgK.tx x11.2)) (x8.trans x11) wt hF.none hW hR).2.2.2
  · obtain ⟨e30, ex31, x0, x1⟩ := k
    subst e30
    refine ⟨i32s (by omega) (by omega), ok, h.1.1.2.1.1, (x_tx_note (x := 4) (i32s (by omega) (by omega)) (by omega) (i32s (by omega) (by omega)) h).mono (fun M34 kk => ?_)⟩
    obtain ⟨o34, h34, x34, u3, u4, u5, u6⟩ := kk
    have eB : x31 = pl a := by rw [ex31]; exact (wt.1 a (by omega)).2.2
    have F34 := u6 ft hF
    rw [eB] at F34
    rw [if_neg yt]
    have a34 : mI M34 (q + 1) 2 = a := by rw [u4 2 (by decide) (by decide)]; exact ha
    have p34 : mI M34 p 2 = L := by rw [u5 p (by have := h.1.2.2.2.2.2.1.2.1; omega)]; exact hs
    have d34 : mI M34 (q + 1) 5 = 0 := by rw [u4 5 (by decide) (by decide)]; exact hd
    rw [h34.1.2.1.2.1, a34]
    refine ⟨o34, h34.1.2.1.1, h34.1.1.2.1.1, ⟨by omega, by omega⟩, fun M8 e8 => ?_⟩
    have k4 := (s_rt8 h34 han e8).1
    have kr := (s_rt8 h34 han e8).2
    refine ⟨k4, fun M11 e11 => ?_⟩
    rw [kr] at e11
    obtain ⟨h8, x8, g8⟩ := tx_ui h34 ⟨by omega, by omega⟩ e8 (Or.inr (Or.inr (Or.inr (Or.inl ⟨rfl, Or.inl rfl⟩))))
    obtain ⟨h11, x11, g11⟩ := tx_ui h8 (i32s (by omega) (by omega)) e11 (Or.inr (Or.inr (Or.inr (Or.inl ⟨rfl, Or.inr (Or.inr rfl)⟩))))
    exact (x_rt8 (Mc := M30) (nms := nms) x34.1 h34 a34 han p34 hsa d34 e8 e11 (fun k => ((k.to x11.2).to x8.2).to x34.2) (((tgK.tx x34.2).trans (tgK.tx x8.2)).trans (tgK.tx x11.2)) ((x34.trans x8).trans x11) (wt.fi h.1 x34.1) F34 hW hR).2.2.2
end TXE
end
end
section
/-! The class's reader of texts, exactly: vars. -/
section TXF
variable {G : mG} {d z q w T A B D N C n p O P K Ab Be Cm V F c s s' L L' cnt Bn a d0 V1 F1 nw k b b' : Nat} {M0 M M' M1 M2 Mc : mM} {ns ns' ns1 : Nat → Int} {sf ef sf' ef' : Nat → Nat} {H : Nat → Nat} {S R : Nat → Prop} {W pl nq E : Nat → Int} {Cf : Nat → Int × Int} {sm : Nat → Nat → Prop} {nms : List nm9} {ft : Int × Int} {zz zr : List Int}
theorem fst9_as (x y z : Int × Int) : fst9 (fst9 x y) z = fst9 x (fst9 y z) := by
  unfold fst9
  by_cases c : x.1 = 0
  · rw [if_pos c, if_pos c]
  · rw [if_neg c, if_neg c, if_neg c]
/-- the fault of a rule that must be of the kind tr -/
noncomputable def vrf (W E pl : Nat → Int) (tr : Int) (x y : Nat) : Int × Int := fst9 (fl W E pl 0 x y) (kft (kdq W E 0 x y = tr) (pl x))
/-- the code of an item's rule k: the words x to y, below b -/
def rvQz (W pl : Nat → Int) (Cf : Nat → Int × Int) (q O P k x y b : Nat) (M' : mM) : Prop := ∃ s L' : Nat, mI M' (q + 21) k = (s : Int) ∧ mI M' O L' = 0 ∧ Cd W Cf pl (mI M' O) (mI M' P) 0 0 0 x y s L' ∧ L' < b ∧ mI M' (q + 22) k = pl x
theorem rvQz.cg {x y : Nat} (h : rvQz W pl Cf q O P k x y b M) (h21 : mI M' (q + 21) k = mI M (q + 21) k) (h22 : mI M' (q + 22) k = mI M (q + 22) k) (hO : ∀ i, i < b → mI M' O i = mI M O i ∧ mI M' P i = mI M P i) (hb : b ≤ b') : rvQz W pl Cf q O P k x y b' M' := by
  obtain ⟨s, L', h1, h2, h3, h4, h5⟩ := h
  exact ⟨s, L', by rw [h21]; exact h1, by rw [(hO L' h4).1]; exact h2, h3.cg (fun t _ t2 => hO t (by omega)), by omega, by rw [h22]; exact h5⟩
theorem irv_ft {l2 tr x : Int} {a' : Nat} (h : FT M' (q + 1) (fst9 (fst9 ft (fl W E pl 0 a a')) (kft (l2 = 0 ∨ kdq W E 0 a a' = (if l2 = 2 then 1 else 0)) (pl a)))) (hl : (l2 = 0 ∨ kdq W E 0 a a' = (if l2 = 2 then 1 else 0)) ↔ kdq W E 0 a a' = tr) : FT M' (q + 1) (fst9 ft (vrf W E pl tr a a')) := by
  rw [propext hl, fst9_as] at h
  exact h
theorem hz_t {y : Int} (hy : y < 18) : ∀ j, lwx (W j) = 3 → Rf W (y :: zr) j j := fun j hj => Rf.of (mst_tn (by omega) (fun u => by
  rw [← u] at hj
  unfold lwx at hj
  rw [if_neg (by omega), if_neg (by omega), if_neg (by omega), if_neg (by omega), if_neg (by omega), if_neg (by omega)] at hj
  exact absurd hj (by decide)))
theorem rc54 (h : W a ≠ 9) : Rc W (54 :: zr) a zr a := Rc.one (mst_n (by decide) (by decide) (ys := []) (t := 0) (by
  show ex54 (W a) = _
  unfold ex54
  rw [if_neg h]) (Or.inl (by decide)))
theorem hz54 : ∀ j, lwx (W j) = 3 → Rf W [54, 34, 50] j j := fun j hj => (rc54 (fun u => by
  rw [u] at hj
  exact absurd hj (by decide))).rf (hz34 j hj)
/-- the ';' -/
def enV (W : Nat → Int) (q p O P a : Nat) (M : mM) (x : Int) (M' : mM) : Prop := ∃ a' : Nat, mI M' (q + 1) 2 = a' ∧ ((x = 0 ∧ Rf W [50] 0 a') ∨ (x = 1 ∧ a' = a + 1 ∧ W a = 34 ∧ Rc W [50] 0 [50] (a + 1) ∧ (∀ b, b ≠ q + 1 → mI M' b = mI M b) ∧ (∀ i, i ≠ 2 → mI M' (q + 1) i = mI M (q + 1) i) ∧ txF M q p O P 0 M'))
theorem x_rv35 (f0 : FI (txS q p O P) M0 M) (h : TX M z q w T A B D N C n p O P K Ab Be Cm V F ns sf ef c cnt L) (hs : mI M p 2 = ((s : Nat) : Int)) (hLs : L ≤ s) (hsa : s ≤ a + 1) (ha : mI M (q + 1) 2 = ((a : Nat) : Int)) (han : a ≤ n) (hd : mI M (q + 1) 5 = 0) (hn : mI M q 3 = ((nw : Nat) : Int) ∧ nw < n ∧ mI M A nw = 2 ∧ mI M q 4 = ((L : Nat) : Int) ∧ (mI M q 8 = 0 ∨ mI M q 8 = 1) ∧ (12 ≤ V → mI M (q + 1) 3 ≠ 0)) (h8 : mI M q 8 = 0 → rvR M q O P F ns L s 0 ∧ rvR M q O P F ns L s 1) (h7 : mI M q 7 ≠ 0 → rvR M q O P F ns L s 2) (wt : WTq M T A B D n W pl nq sm) (hR : Rc W [50] 0 [34, 50] a) : Ci G y_RR_accept d [vr (q + 1), vi 35] M (fun x69 M68 => i32 x69 ∧ mOk M68 ∧ ((x69 = 0 ∨ x69 = 1) ∧ vaQ M0 z q w T A B D N C n p O P K Ab Be Cm V F ns sf ef c cnt L x69 M68 ∧ enV W q p O P a M x69 M68)) := by
  have ap := h.1.apart
  have qp := h.1.2.2.2.2.2.1.2.1
  refine (x_tx_accept (x := 35) (i32s (by omega) (by omega)) (by omega) h ha han).mono (fun x M' k => ?_)
  obtain ⟨i1, o1, hx, h1, x1, k1, r1, b1, m1⟩ := k
  refine ⟨i1, o1, hx, ?_⟩
  rcases k1 with ⟨e1, eA, a1, an1⟩ | ⟨e1, e2⟩
  · have w34 : W a = 34 := (wt.is han (by decide) (by decide)).mp eA
    refine ⟨?_, a + 1, a1, Or.inr ⟨e1, rfl, w34, rc_t hR w34 (by decide), b1, r1, x1.less (Nat.zero_le _)⟩⟩
    obtain ⟨n1, n2, n3, n4, n5, n6⟩ := hn
    refine ⟨f0.trans x1.1, Or.inr ⟨e1, h1, s, a + 1, nw, ⟨by rw [b1 p (by first | (have h1 := qp; omega) | omega)]; exact hs, hLs, by omega, a1, by omega, by rw [r1 5 (by decide)]; exact hd, by rw [b1 q (by omega)]; exact n1, n2, by rw [(h.1.words x1.1).1]; exact n3, by rw [b1 q (by omega)]; exact n4, by rw [b1 q (by omega)]; exact n5, fun y => by rw [r1 3 (by decide)]; exact n6 y⟩, fun y => ?_, fun y => ?_⟩⟩
    · rw [b1 q (by omega)] at y
      obtain ⟨u1, u2⟩ := h8 y
      exact ⟨u1.cg (by rw [b1 _ (by omega)]) (fun i _ => ⟨by rw [b1 O (by first | (have h1 := ap.2.2.2.1; have h2 := ap.2.1; omega) | omega)], by rw [b1 P (by first | (have h1 := ap.2.2.2.2.1; have h2 := ap.2.2.1; omega) | omega)]⟩) (Nat.le_refl _), u2.cg (by rw [b1 _ (by omega)]) (fun i _ => ⟨by rw [b1 O (by first | (have h1 := ap.2.2.2.1; have h2 := ap.2.1; omega) | omega)], by rw [b1 P (by first | (have h1 := ap.2.2.2.2.1; have h2 := ap.2.2.1; omega) | omega)]⟩) (Nat.le_refl _)⟩
    · rw [b1 q (by omega)] at y
      exact (h7 y).cg (by rw [b1 _ (by omega)]) (fun i _ => ⟨by rw [b1 O (by first | (have h1 := ap.2.2.2.1; have h2 := ap.2.1; omega) | omega)], by rw [b1 P (by first | (have h1 := ap.2.2.2.2.1; have h2 := ap.2.2.1; omega) | omega)]⟩) (Nat.le_refl _)
  · rw [e2]
    exact ⟨⟨f0, Or.inl ⟨e1, h, a, ha, han⟩⟩, a, ha, Or.inl ⟨e1, rf_t hR (fun u => m1 e1 ((wt.is han (by decide) (by decide)).mpr u)) (by decide)⟩⟩
/-- a var's end, exactly: from its init at word a on; s: where the code stands -/
def inV (W pl nq : Nat → Int) (sm : Nat → Nat → Prop) (q p O P n c a s : Nat) (nms : List nm9) (ft : Int × Int) (M : mM) (x : Int) (M' : mM) : Prop := ∃ a' : Nat, mI M' (q + 1) 2 = a' ∧ ((x = 0 ∧ Rf W [50] 0 a') ∨ (x = 1 ∧ Rc W [50] 0 [50] a' ∧ (∀ i, i ≠ 7 → mI M' q i = mI M q i) ∧ (∀ j, j ≠ 2 → mI M' (q + 21) j = mI M (q + 21) j ∧ mI M' (q + 22) j = mI M (q + 22) j) ∧ (∀ i, i < s → mI M' O i = mI M O i ∧ mI M' P i = mI M P i) ∧ ∃ (e b : Nat) (I : Int × Int), a' = e + 1 ∧ W e = 34 ∧ FT M' (q + 1) (fst9 ft I) ∧ mI M' p 2 = (b : Int) ∧ (s ≤ b ∧ txF M q p O P 0 M') ∧ ((W a ≠ 9 ∧ a = e ∧ mI M' q 7 = 0 ∧ I = (0, 0)) ∨ (W a = 9 ∧ mI M' q 7 = 1 ∧ ∃ E Cf, Eo W 6 (a + 1) e ∧ ECq M (q + 1) p n W nq sm nms c 1 E Cf ∧ I = vrf W E pl (mI M q 8) (a + 1) e ∧ rvQz W pl Cf q O P 2 (a + 1) e b M'))))
theorem x_rv10 (f0 : FI (txS q p O P) M0 M) (h : TX M z q w T A B D N C n p O P K Ab Be Cm V F ns sf ef c cnt L) (hs : mI M p 2 = ((s : Nat) : Int)) (hLs : L ≤ s) (hsa : s ≤ a + 1) (ha : mI M (q + 1) 2 = ((a : Nat) : Int)) (han : a ≤ n) (hd : mI M (q + 1) 5 = 0) (hr6' : mI M (q + 1) 6 = 1) (hn : mI M q 3 = ((nw : Nat) : Int) ∧ nw < n ∧ mI M A nw = 2 ∧ mI M q 4 = ((L : Nat) : Int) ∧ (mI M q 8 = 0 ∨ mI M q 8 = 1) ∧ (12 ≤ V → mI M (q + 1) 3 ≠ 0)) (h8 : mI M q 8 = 0 → rvR M q O P F ns L s 0 ∧ rvR M q O P F ns L s 1) (wt : WTq M T A B D n W pl nq sm) (hF : FT M (q + 1) ft) (hR : Rc W [50] 0 [54, 34, 50] a) : Ci G y_RR_accept (d + 5) [vr (q + 1), vi 10] M (fun x59 M58 => i32 x59 ∧ mOk M58 ∧ (mK M58 q = 3 ∧ (x59 = 0 ∨ x59 = 1) ∧ ∀ M63, M63 = mUI M58 q 7 x59 → ((mI M63 q 7 = 0) → (mK M63 (mR M63 q 0) = 4 ∧ Ci G y_RR_accept (d + 5) [vr (mR M63 q 0), vi 35] M63 (fun x69 M68 => i32 x69 ∧ mOk M68 ∧ ((x69 = 0 ∨ x69 = 1) ∧ vaQ M0 z q w T A B D N C n p O P K Ab Be Cm V F ns sf ef c cnt L x69 M68 ∧ inV W pl nq sm q p O P n c a s nms ft M x69 M68)))) ∧ (¬ (mI M63 q 7 = 0) → (∀ v73 : Int, v73 = (if (mI M63 q 8 = 0) then 1 else 2) → Ci G y_TR_readItemRule (d + 5) [vr q, vi 2, vi v73] M63 (fun x78 M77 => i32 x78 ∧ mOk M77 ∧ (((x78 = 0) → (vaQ M0 z q w T A B D N C n p O P K Ab Be Cm V F ns sf ef c cnt L 0 M77 ∧ inV W pl nq sm q p O P n c a s nms ft M 0 M77)) ∧ (¬ (x78 = 0) → (mK M77 q = 3 ∧ mK M77 (mR M77 q 0) = 4 ∧ Ci G y_RR_accept (d + 5) [vr (mR M77 q 0), vi 35] M77 (fun x85 M84 => i32 x85 ∧ mOk M84 ∧ ((x85 = 0 ∨ x85 = 1) ∧ vaQ M0 z q w T A B D N C n p O P K Ab Be Cm V F ns sf ef c cnt L x85 M84 ∧ inV W pl nq sm q p O P n c a s nms ft M x85 M84)))))))))) := by
  have hr6 : mI M (q + 1) 6 ≠ 0 := by rw [hr6']; decide
  obtain ⟨⟨np0, np1, -, -⟩, ⟨nO0, nO1, -, -, -⟩, nP0, nP1, -, -, -⟩ := h.1.ne
  obtain ⟨q01, q10, q210, q211, -, -, q220, q221, -⟩ := q_ne q
  have ap := h.1.apart
  have qp := h.1.2.2.2.2.2.1.2.1
  obtain ⟨n1, n2, n3, n4, n5, n6⟩ := hn
  refine (x_tx_accept (x := 10) (i32s (by omega) (by omega)) (by omega) h ha han).mono (fun x59 M58 k => ?_)
  obtain ⟨i1, o1, hx, h1, x1, k1, r1, b1, m1⟩ := k
  refine ⟨i1, o1, h1.1.2.1.1, hx, fun M63 e63 => ?_⟩
  obtain ⟨h63, x63, g63⟩ := tx_ui h1 i1 e63 (Or.inl rfl)
  have gg : ∀ b, b ≠ q → mI M63 b = mI M58 b := fun b hb => by
    funext i
    rw [g63, if_neg (by omega)]
  have bb : ∀ b, b ≠ q → b ≠ q + 1 → mI M63 b = mI M b := fun b h0 h1 => by rw [gg b h0, b1 b h1]
  have qq : ∀ i, i ≠ 7 → mI M63 q i = mI M q i := fun i hi => by rw [g63, if_neg (fun u => hi u.2), b1 q (by omega)]
  have rr : ∀ i, i ≠ 2 → mI M63 (q + 1) i = mI M (q + 1) i := fun i hi => by rw [gg _ (by omega), r1 i hi]
  have A63 : mI M63 A nw = 2 := by rw [(h1.1.words x63.1).1, (h.1.words x1.1).1]; exact n3
  have hn63 : mI M63 q 3 = ((nw : Nat) : Int) ∧ nw < n ∧ mI M63 A nw = 2 ∧ mI M63 q 4 = ((L : Nat) : Int) ∧ (mI M63 q 8 = 0 ∨ mI M63 q 8 = 1) ∧ (12 ≤ V → mI M63 (q + 1) 3 ≠ 0) := ⟨by rw [qq 3 (by decide)]; exact n1, n2, A63, by rw [qq 4 (by decide)]; exact n4, by rw [qq 8 (by decide)]; exact n5, fun y => by rw [rr 3 (by decide)]; exact n6 y⟩
  have v63 : mI M63 q 8 = 0 → rvR M63 q O P F ns L s 0 ∧ rvR M63 q O P F ns L s 1 := fun y => by
    rw [qq 8 (by decide)] at y
    obtain ⟨u1, u2⟩ := h8 y
    exact ⟨u1.cg (by rw [bb _ q210 q211]) (fun i _ => ⟨by rw [bb O nO0 nO1], by rw [bb P nP0 nP1]⟩) (Nat.le_refl _), u2.cg (by rw [bb _ q210 q211]) (fun i _ => ⟨by rw [bb O nO0 nO1], by rw [bb P nP0 nP1]⟩) (Nat.le_refl _)⟩
  have wt63 : WTq M63 T A B D n W pl nq sm := (wt.fi h.1 x1.1).fi h1.1 x63.1
  have F63 : FT M63 (q + 1) ft := hF.same (rr 3 (by decide)) (rr 4 (by decide))
  have q7 : mI M63 q 7 = x59 := by rw [g63, if_pos ⟨rfl, rfl⟩]
  have p63 : mI M63 p 2 = ((s : Nat) : Int) := by rw [bb p np0 np1]; exact hs
  have d63 : mI M63 (q + 1) 5 = 0 := by rw [rr 5 (by decide)]; exact hd
  rw [h63.1.2.1.2.1]
  refine ⟨fun y => ⟨h63.1.1.2.1.1, ?_⟩, fun y v73 e73 => ?_⟩
  · have e0 : x59 = 0 := by
      rw [g63, if_pos ⟨rfl, rfl⟩] at y
      exact y
    have e2 := (k1.resolve_left (fun u => by have := u.1; omega)).2
    have a63 : mI M63 (q + 1) 2 = ((a : Nat) : Int) := by rw [gg _ (by omega), e2]; exact ha
    have n9 : W a ≠ 9 := fun u => m1 e0 ((wt.is han (by decide) (by decide)).mpr u)
    refine (x_rv35 ((f0.trans x1.1).trans x63.1) h63 p63 hLs hsa a63 han d63 hn63 v63 (fun u => absurd y u) wt63 (hR.trans (rc54 n9))).mono (fun x69 M68 u => ⟨u.1, u.2.1, u.2.2.1, u.2.2.2.1, ?_⟩)
    obtain ⟨a', j1, j2⟩ := u.2.2.2.2
    refine ⟨a', j1, ?_⟩
    rcases j2 with j2 | ⟨j2, j3, j4, j5, j6, j7, j8⟩
    · exact Or.inl j2
    · refine Or.inr ⟨j2, by rw [j3]; exact j5, fun i hi => by rw [j6 q q01]; exact qq i hi, fun j _ => ⟨by rw [j6 _ q211, bb _ q210 q211], by rw [j6 _ q221, bb _ q220 q221]⟩, fun i _ => ⟨by rw [j6 O nO1, bb O nO0 nO1], by rw [j6 P nP1, bb P nP0 nP1]⟩, a, s, (0, 0), j3, j4, (F63.same (j7 3 (by decide)) (j7 4 (by decide))).none, by rw [j6 p np1]; exact p63, ⟨Nat.le_refl _, ((x1.trans x63).less (Nat.zero_le _)).trans j8⟩, Or.inl ⟨n9, rfl, by rw [j6 q q01]; exact y, rfl⟩⟩
  · have e0 : x59 ≠ 0 := fun u => y (by rw [g63, if_pos ⟨rfl, rfl⟩]; exact u)
    obtain ⟨ex1, eA9, a58, an58⟩ := k1.resolve_right (fun u => e0 u.1)
    have w9 : W a = 9 := (wt.is han (by decide) (by decide)).mp eA9
    have rc1 : Rc W [50] 0 [61, 34, 50] (a + 1) := hR.trans (Rc.one (mst_n (by decide) (by decide) (ys := [61]) (t := 1) (by show ex54 (W a) = _; unfold ex54; rw [if_pos w9]) (Or.inl (by decide))))
    have a63 : mI M63 (q + 1) 2 = ((a + 1 : Nat) : Int) := by rw [gg _ (by omega)]; exact a58
    have i73 : i32 v73 := by rw [e73]; split <;> exact i32s (by omega) (by omega)
    have c63 : mI M63 (q + 1) 6 ≠ 0 := by rw [rr 6 (by decide)]; exact hr6
    refine (x_TR_readItemRule (k := 2) (d0 := 0) (nms := nms) (ft := ft) (zz := [34, 50]) (by omega) i73 h63 a63 (by omega) p63 hLs hsa d63 (by omega) (h63.2.1.2.2.1.nkc c63) wt63 F63 (by rw [d63]; rfl) hz34 rc1).mono (fun x78 M77 k => ?_)
    obtain ⟨⟨h77, x77, ⟨c77, q77, t77⟩, k77⟩, t22, E, Cf, ec, a9, ea9, iv⟩ := k
    rw [rr 6 (by decide), hr6'] at ec
    have ec : ECq M (q + 1) p n W nq sm nms c 1 E Cf := (ec.to x63.2).to x1.2
    have i78 : i32 x78 := by rcases k77 with u | u <;> rw [u.1] <;> exact i32s (by omega) (by omega)
    refine ⟨i78, h77.1.1.1, fun y => ?_, fun y => ?_⟩
    · obtain ⟨-, u⟩ := k77.resolve_right (fun u => by have := u.1; omega)
      refine ⟨⟨((f0.trans x1.1).trans x63.1).trans x77.1, Or.inl ⟨rfl, h77, u⟩⟩, a9, ea9, Or.inl ⟨rfl, ?_⟩⟩
      rcases iv with ⟨-, iv⟩ | ⟨iv, -⟩
      · exact iv
      · rw [y] at iv; exact absurd iv (by decide)
    obtain ⟨-, e, H, a', cd, p77, a77, aa, an, ea, d77⟩ := k77.resolve_left (fun u => y u.1)
    obtain ⟨-, L9, v1, v2, v3, v4, v5, v6, v7⟩ := iv.resolve_left (fun u => y u.1)
    clear iv
    have ea9' : a' = a9 := by rw [a77] at ea9; omega
    subst ea9'
    have eL : e = L9 := by rw [p77] at v1; omega
    subst eL
    have q8 : mI M63 q 8 = mI M q 8 := qq 8 (by decide)
    have F77 : FT M77 (q + 1) (fst9 ft (vrf W E pl (mI M q 8) (a + 1) a')) := by
      refine irv_ft (x := 0) v5 ?_
      rw [e73, q8]
      rcases n5 with u | u
      · rw [u]; simp
      · rw [u]; simp
    have wt77 : WTq M77 T A B D n W pl nq sm := wt63.fi h63.1 x77.1
    have se : s ≤ e := cd.2.2.2.2.2
    have fo : ∀ i, i < s → mI M77 O i = mI M63 O i ∧ mI M77 P i = mI M63 P i := x77.2.2.2.2.2.2
    rw [h77.1.2.1.2.1]
    refine ⟨h77.1.2.1.1, h77.1.1.2.1.1, (x_rv35 (s := e + 1) (((f0.trans x1.1).trans x63.1).trans x77.1) h77 p77 (by omega) (by omega) a77 an (by rw [d77]; exact d63) ⟨by rw [q77]; exact hn63.1, n2, by rw [(h63.1.words x77.1).1]; exact A63, by rw [q77]; exact hn63.2.2.2.1, by rw [q77]; exact hn63.2.2.2.2.1, fun u => x77.2.2.1 (hn63.2.2.2.2.2 u)⟩ (fun u => ?_) (fun _ => ⟨s, e, H, by rw [t77, if_pos rfl], cd, hLs, by omega⟩) wt77 v7).mono (fun x69 M68 u => ⟨u.1, u.2.1, u.2.2.1, u.2.2.2.1, ?_⟩)⟩
    rotate_left
    · obtain ⟨a8, j1, j2⟩ := u.2.2.2.2
      refine ⟨a8, j1, ?_⟩
      rcases j2 with j2 | ⟨j2, j3, j4, j5, j6, j7, j8⟩
      · exact Or.inl j2
      · refine Or.inr ⟨j2, by rw [j3]; exact j5, fun i hi => by rw [j6 q q01, q77]; exact qq i hi, fun j hj => ⟨by rw [j6 _ q211, t77, if_neg hj, bb _ q210 q211], by rw [j6 _ q221, t22, if_neg hj, bb _ q220 q221]⟩, fun i hi => ⟨by rw [j6 O nO1, (fo i hi).1, bb O nO0 nO1], by rw [j6 P nP1, (fo i hi).2, bb P nP0 nP1]⟩, a', e + 1, _, j3, j4, F77.same (j7 3 (by decide)) (j7 4 (by decide)), by rw [j6 p np1]; exact p77, ⟨by omega, (((x1.trans x63).less (Nat.zero_le _)).trans (x77.less (Nat.zero_le _))).trans j8⟩, Or.inr ⟨w9, by rw [j6 q q01, q77, q7]; exact ex1, E, Cf, v3, ec, rfl, s, e, by rw [j6 _ q211, t77, if_pos rfl], by rw [j6 O nO1]; exact v2, v6.cg (fun t _ _ => ⟨by rw [j6 O nO1], by rw [j6 P nP1]⟩), Nat.lt_succ_self _, by rw [j6 _ q221, t22, if_pos rfl]⟩⟩
    rw [q77] at u
    obtain ⟨u1, u2⟩ := v63 u
    exact ⟨u1.cg (by rw [t77, if_neg (by decide)]) fo (by omega), u2.cg (by rw [t77, if_neg (by decide)]) fo (by omega)⟩
end TXF
end
