/-! The class's reader of texts, exactly: vars. -/
section TXF
variable {G : mG} {d z q w T A B D N C n p O P K Ab Be Cm V F c s s' L L' cnt Bn a d0 V1 F1 nw k b b' : Nat} {M0 M M' M1 M2 Mc : mM} {ns ns' ns1 : Nat → Int} {sf ef sf' ef' : Nat → Nat} {H : Nat → Nat} {S R : Nat → Prop} {W pl nq E : Nat → Int} {Cf : Nat → Int × Int} {sm : Nat → Nat → Prop} {nms : List nm9} {ft : Int × Int} {zz zr : List Int}
theorem fst9_as (x y z : Int × Int) : fst9 (fst9 x y) z = fst9 x (fst9 y z) := by
  unfold fst9
  by_cases c : x.1 = 0
  · rw [if_pos c, if_pos c]
  · rw [if_neg c, if_neg c, if_neg c]
/-- the fault of a rule that must be of the kind tr -/
noncomputable def vrf (W E pl : Nat → Int) (tr : Int) (x y : Nat) : Int × Int := fst9 (fl W E pl 0 x y) (kft (kdq W E 0 x y = tr) (pl x))
/-- the code of an item's rule k: the words x to y, below b -/
def rvQz (W pl : Nat → Int) (Cf : Nat → Int × Int) (q O P k x y b : Nat) (M' : mM) : Prop := ∃ s L' : Nat, mI M' (q + 21) k = (s : Int) ∧ mI M' O L' = 0 ∧ Cd W Cf pl (mI M' O) (mI M' P) 0 0 0 x y s L' ∧ L' < b ∧ mI M' (q + 22) k = pl x
theorem rvQz.cg {x y : Nat} (h : rvQz W pl Cf q O P k x y b M) (h21 : mI M' (q + 21) k = mI M (q + 21) k) (h22 : mI M' (q + 22) k = mI M (q + 22) k) (hO : ∀ i, i < b → mI M' O i = mI M O i ∧ mI M' P i = mI M P i) (hb : b ≤ b') : rvQz W pl Cf q O P k x y b' M' := by
  obtain ⟨s, L', h1, h2, h3, h4, h5⟩ := h
  exact ⟨s, L', by rw [h21]; exact h1, by rw [(hO L' h4).1]; exact h2, h3.cg (fun t _ t2 => hO t (by omega)), by omega, by rw [h22]; exact h5⟩
theorem irv_ft {l2 tr x : Int} {a' : Nat} (h : FT M' (q + 1) (fst9 (fst9 ft (fl W E pl 0 a a')) (kft (l2 = 0 ∨ kdq W E 0 a a' = (if l2 = 2 then 1 else 0)) (pl a)))) (hl : (l2 = 0 ∨ kdq W E 0 a a' = (if l2 = 2 then 1 else 0)) ↔ kdq W E 0 a a' = tr) : FT M' (q + 1) (fst9 ft (vrf W E pl tr a a')) := by
  rw [propext hl, fst9_as] at h
  exact h
theorem hz_t {y : Int} (hy : y < 18) : ∀ j, lwx (W j) = 3 → Rf W (y :: zr) j j := fun j hj => Rf.of (mst_tn (by omega) (fun u => by
  rw [← u] at hj
  unfold lwx at hj
  rw [if_neg (by omega), if_neg (by omega), if_neg (by omega), if_neg (by omega), if_neg (by omega), if_neg (by omega)] at hj
  exact absurd hj (by decide)))
theorem rc54 (h : W a ≠ 9) : Rc W (54 :: zr) a zr a := Rc.one (mst_n (by decide) (by decide) (ys := []) (t := 0) (by
  show ex54 (W a) = _
  unfold ex54
  rw [if_neg h]) (Or.inl (by decide)))
theorem hz54 : ∀ j, lwx (W j) = 3 → Rf W [54, 34, 50] j j := fun j hj => (rc54 (fun u => by
  rw [u] at hj
  exact absurd hj (by decide))).rf (hz34 j hj)
/-- the ';' -/
def enV (W : Nat → Int) (q p O P a : Nat) (M : mM) (x : Int) (M' : mM) : Prop := ∃ a' : Nat, mI M' (q + 1) 2 = a' ∧ ((x = 0 ∧ Rf W [50] 0 a') ∨ (x = 1 ∧ a' = a + 1 ∧ W a = 34 ∧ Rc W [50] 0 [50] (a + 1) ∧ (∀ b, b ≠ q + 1 → mI M' b = mI M b) ∧ (∀ i, i ≠ 2 → mI M' (q + 1) i = mI M (q + 1) i) ∧ txF M q p O P 0 M'))
theorem x_rv35 (f0 : FI (txS q p O P) M0 M) (h : TX M z q w T A B D N C n p O P K Ab Be Cm V F ns sf ef c cnt L) (hs : mI M p 2 = ((s : Nat) : Int)) (hLs : L ≤ s) (hsa : s ≤ a + 1) (ha : mI M (q + 1) 2 = ((a : Nat) : Int)) (han : a ≤ n) (hd : mI M (q + 1) 5 = 0) (hn : mI M q 3 = ((nw : Nat) : Int) ∧ nw < n ∧ mI M A nw = 2 ∧ mI M q 4 = ((L : Nat) : Int) ∧ (mI M q 8 = 0 ∨ mI M q 8 = 1) ∧ (12 ≤ V → mI M (q + 1) 3 ≠ 0)) (h8 : mI M q 8 = 0 → rvR M q O P F ns L s 0 ∧ rvR M q O P F ns L s 1) (h7 : mI M q 7 ≠ 0 → rvR M q O P F ns L s 2) (wt : WTq M T A B D n W pl nq sm) (hR : Rc W [50] 0 [34, 50] a) : Ci G y_RR_accept d [vr (q + 1), vi 35] M (fun x69 M68 => i32 x69 ∧ mOk M68 ∧ ((x69 = 0 ∨ x69 = 1) ∧ vaQ M0 z q w T A B D N C n p O P K Ab Be Cm V F ns sf ef c cnt L x69 M68 ∧ enV W q p O P a M x69 M68)) := by
  have ap := h.1.apart
  have qp := h.1.2.2.2.2.2.1.2.1
  refine (x_tx_accept (x := 35) (i32s (by omega) (by omega)) (by omega) h ha han).mono (fun x M' k => ?_)
  obtain ⟨i1, o1, hx, h1, x1, k1, r1, b1, m1⟩ := k
  refine ⟨i1, o1, hx, ?_⟩
  rcases k1 with ⟨e1, eA, a1, an1⟩ | ⟨e1, e2⟩
  · have w34 : W a = 34 := (wt.is han (by decide) (by decide)).mp eA
    refine ⟨?_, a + 1, a1, Or.inr ⟨e1, rfl, w34, rc_t hR w34 (by decide), b1, r1, x1.less (Nat.zero_le _)⟩⟩
    obtain ⟨n1, n2, n3, n4, n5, n6⟩ := hn
    refine ⟨f0.trans x1.1, Or.inr ⟨e1, h1, s, a + 1, nw, ⟨by rw [b1 p (by first | (have h1 := qp; omega) | omega)]; exact hs, hLs, by omega, a1, by omega, by rw [r1 5 (by decide)]; exact hd, by rw [b1 q (by omega)]; exact n1, n2, by rw [(h.1.words x1.1).1]; exact n3, by rw [b1 q (by omega)]; exact n4, by rw [b1 q (by omega)]; exact n5, fun y => by rw [r1 3 (by decide)]; exact n6 y⟩, fun y => ?_, fun y => ?_⟩⟩
    · rw [b1 q (by omega)] at y
      obtain ⟨u1, u2⟩ := h8 y
      exact ⟨u1.cg (by rw [b1 _ (by omega)]) (fun i _ => ⟨by rw [b1 O (by first | (have h1 := ap.2.2.2.1; have h2 := ap.2.1; omega) | omega)], by rw [b1 P (by first | (have h1 := ap.2.2.2.2.1; have h2 := ap.2.2.1; omega) | omega)]⟩) (Nat.le_refl _), u2.cg (by rw [b1 _ (by omega)]) (fun i _ => ⟨by rw [b1 O (by first | (have h1 := ap.2.2.2.1; have h2 := ap.2.1; omega) | omega)], by rw [b1 P (by first | (have h1 := ap.2.2.2.2.1; have h2 := ap.2.2.1; omega) | omega)]⟩) (Nat.le_refl _)⟩
    · rw [b1 q (by omega)] at y
      exact (h7 y).cg (by rw [b1 _ (by omega)]) (fun i _ => ⟨by rw [b1 O (by first | (have h1 := ap.2.2.2.1; have h2 := ap.2.1; omega) | omega)], by rw [b1 P (by first | (have h1 := ap.2.2.2.2.1; have h2 := ap.2.2.1; omega) | omega)]⟩) (Nat.le_refl _)
  · rw [e2]
    exact ⟨⟨f0, Or.inl ⟨e1, h, a, ha, han⟩⟩, a, ha, Or.inl ⟨e1, rf_t hR (fun u => m1 e1 ((wt.is han (by decide) (by decide)).mpr u)) (by decide)⟩⟩
/-- a var's end, exactly: from its init at word a on; s: where the code stands -/
def inV (W pl nq : Nat → Int) (sm : Nat → Nat → Prop) (q p O P n c a s : Nat) (nms : List nm9) (ft : Int × Int) (M : mM) (x : Int) (M' : mM) : Prop := ∃ a' : Nat, mI M' (q + 1) 2 = a' ∧ ((x = 0 ∧ Rf W [50] 0 a') ∨ (x = 1 ∧ Rc W [50] 0 [50] a' ∧ (∀ i, i ≠ 7 → mI M' q i = mI M q i) ∧ (∀ j, j ≠ 2 → mI M' (q + 21) j = mI M (q + 21) j ∧ mI M' (q + 22) j = mI M (q + 22) j) ∧ (∀ i, i < s → mI M' O i = mI M O i ∧ mI M' P i = mI M P i) ∧ ∃ (e b : Nat) (I : Int × Int), a' = e + 1 ∧ W e = 34 ∧ FT M' (q + 1) (fst9 ft I) ∧ mI M' p 2 = (b : Int) ∧ (s ≤ b ∧ txF M q p O P 0 M') ∧ ((W a ≠ 9 ∧ a = e ∧ mI M' q 7 = 0 ∧ I = (0, 0)) ∨ (W a = 9 ∧ mI M' q 7 = 1 ∧ ∃ E Cf, Eo W 6 (a + 1) e ∧ ECq M (q + 1) p n W nq sm nms c 1 E Cf ∧ I = vrf W E pl (mI M q 8) (a + 1) e ∧ rvQz W pl Cf q O P 2 (a + 1) e b M'))))
theorem x_rv10 (f0 : FI (txS q p O P) M0 M) (h : TX M z q w T A B D N C n p O P K Ab Be Cm V F ns sf ef c cnt L) (hs : mI M p 2 = ((s : Nat) : Int)) (hLs : L ≤ s) (hsa : s ≤ a + 1) (ha : mI M (q + 1) 2 = ((a : Nat) : Int)) (han : a ≤ n) (hd : mI M (q + 1) 5 = 0) (hr6' : mI M (q + 1) 6 = 1) (hn : mI M q 3 = ((nw : Nat) : Int) ∧ nw < n ∧ mI M A nw = 2 ∧ mI M q 4 = ((L : Nat) : Int) ∧ (mI M q 8 = 0 ∨ mI M q 8 = 1) ∧ (12 ≤ V → mI M (q + 1) 3 ≠ 0)) (h8 : mI M q 8 = 0 → rvR M q O P F ns L s 0 ∧ rvR M q O P F ns L s 1) (wt : WTq M T A B D n W pl nq sm) (hF : FT M (q + 1) ft) (hR : Rc W [50] 0 [54, 34, 50] a) : Ci G y_RR_accept (d + 5) [vr (q + 1), vi 10] M (fun x59 M58 => i32 x59 ∧ mOk M58 ∧ (mK M58 q = 3 ∧ (x59 = 0 ∨ x59 = 1) ∧ ∀ M63, M63 = mUI M58 q 7 x59 → ((mI M63 q 7 = 0) → (mK M63 (mR M63 q 0) = 4 ∧ Ci G y_RR_accept (d + 5) [vr (mR M63 q 0), vi 35] M63 (fun x69 M68 => i32 x69 ∧ mOk M68 ∧ ((x69 = 0 ∨ x69 = 1) ∧ vaQ M0 z q w T A B D N C n p O P K Ab Be Cm V F ns sf ef c cnt L x69 M68 ∧ inV W pl nq sm q p O P n c a s nms ft M x69 M68)))) ∧ (¬ (mI M63 q 7 = 0) → (∀ v73 : Int, v73 = (if (mI M63 q 8 = 0) then 1 else 2) → Ci G y_TR_readItemRule (d + 5) [vr q, vi 2, vi v73] M63 (fun x78 M77 => i32 x78 ∧ mOk M77 ∧ (((x78 = 0) → (vaQ M0 z q w T A B D N C n p O P K Ab Be Cm V F ns sf ef c cnt L 0 M77 ∧ inV W pl nq sm q p O P n c a s nms ft M 0 M77)) ∧ (¬ (x78 = 0) → (mK M77 q = 3 ∧ mK M77 (mR M77 q 0) = 4 ∧ Ci G y_RR_accept (d + 5) [vr (mR M77 q 0), vi 35] M77 (fun x85 M84 => i32 x85 ∧ mOk M84 ∧ ((x85 = 0 ∨ x85 = 1) ∧ vaQ M0 z q w T A B D N C n p O P K Ab Be Cm V F ns sf ef c cnt L x85 M84 ∧ inV W pl nq sm q p O P n c a s nms ft M x85 M84)))))))))) := by
  have hr6 : mI M (q + 1) 6 ≠ 0 := by rw [hr6']; decide
  obtain ⟨⟨np0, np1, -, -⟩, ⟨nO0, nO1, -, -, -⟩, nP0, nP1, -, -, -⟩ := h.1.ne
  obtain ⟨q01, q10, q210, q211, -, -, q220, q221, -⟩ := q_ne q
  have ap := h.1.apart
  have qp := h.1.2.2.2.2.2.1.2.1
  obtain ⟨n1, n2, n3, n4, n5, n6⟩ := hn
  refine (x_tx_accept (x := 10) (i32s (by omega) (by omega)) (by omega) h ha han).mono (fun x59 M58 k => ?_)
  obtain ⟨i1, o1, hx, h1, x1, k1, r1, b1, m1⟩ := k
  refine ⟨i1, o1, h1.1.2.1.1, hx, fun M63 e63 => ?_⟩
  obtain ⟨h63, x63, g63⟩ := tx_ui h1 i1 e63 (Or.inl rfl)
  have gg : ∀ b, b ≠ q → mI M63 b = mI M58 b := fun b hb => by
    funext i
    rw [g63, if_neg (by omega)]
  have bb : ∀ b, b ≠ q → b ≠ q + 1 → mI M63 b = mI M b := fun b h0 h1 => by rw [gg b h0, b1 b h1]
  have qq : ∀ i, i ≠ 7 → mI M63 q i = mI M q i := fun i hi => by rw [g63, if_neg (fun u => hi u.2), b1 q (by omega)]
  have rr : ∀ i, i ≠ 2 → mI M63 (q + 1) i = mI M (q + 1) i := fun i hi => by rw [gg _ (by omega), r1 i hi]
  have A63 : mI M63 A nw = 2 := by rw [(h1.1.words x63.1).1, (h.1.words x1.1).1]; exact n3
  have hn63 : mI M63 q 3 = ((nw : Nat) : Int) ∧ nw < n ∧ mI M63 A nw = 2 ∧ mI M63 q 4 = ((L : Nat) : Int) ∧ (mI M63 q 8 = 0 ∨ mI M63 q 8 = 1) ∧ (12 ≤ V → mI M63 (q + 1) 3 ≠ 0) := ⟨by rw [qq 3 (by decide)]; exact n1, n2, A63, by rw [qq 4 (by decide)]; exact n4, by rw [qq 8 (by decide)]; exact n5, fun y => by rw [rr 3 (by decide)]; exact n6 y⟩
  have v63 : mI M63 q 8 = 0 → rvR M63 q O P F ns L s 0 ∧ rvR M63 q O P F ns L s 1 := fun y => by
    rw [qq 8 (by decide)] at y
    obtain ⟨u1, u2⟩ := h8 y
    exact ⟨u1.cg (by rw [bb _ q210 q211]) (fun i _ => ⟨by rw [bb O nO0 nO1], by rw [bb P nP0 nP1]⟩) (Nat.le_refl _), u2.cg (by rw [bb _ q210 q211]) (fun i _ => ⟨by rw [bb O nO0 nO1], by rw [bb P nP0 nP1]⟩) (Nat.le_refl _)⟩
  have wt63 : WTq M63 T A B D n W pl nq sm := (wt.fi h.1 x1.1).fi h1.1 x63.1
  have F63 : FT M63 (q + 1) ft := hF.same (rr 3 (by decide)) (rr 4 (by decide))
  have q7 : mI M63 q 7 = x59 := by rw [g63, if_pos ⟨rfl, rfl⟩]
  have p63 : mI M63 p 2 = ((s : Nat) : Int) := by rw [bb p np0 np1]; exact hs
  have d63 : mI M63 (q + 1) 5 = 0 := by rw [rr 5 (by decide)]; exact hd
  rw [h63.1.2.1.2.1]
  refine ⟨fun y => ⟨h63.1.1.2.1.1, ?_⟩, fun y v73 e73 => ?_⟩
  · have e0 : x59 = 0 := by
      rw [g63, if_pos ⟨rfl, rfl⟩] at y
      exact y
    have e2 := (k1.resolve_left (fun u => by have := u.1; omega)).2
    have a63 : mI M63 (q + 1) 2 = ((a : Nat) : Int) := by rw [gg _ (by omega), e2]; exact ha
    have n9 : W a ≠ 9 := fun u => m1 e0 ((wt.is han (by decide) (by decide)).mpr u)
    refine (x_rv35 ((f0.trans x1.1).trans x63.1) h63 p63 hLs hsa a63 han d63 hn63 v63 (fun u => absurd y u) wt63 (hR.trans (rc54 n9))).mono (fun x69 M68 u => ⟨u.1, u.2.1, u.2.2.1, u.2.2.2.1, ?_⟩)
    obtain ⟨a', j1, j2⟩ := u.2.2.2.2
    refine ⟨a', j1, ?_⟩
    rcases j2 with j2 | ⟨j2, j3, j4, j5, j6, j7, j8⟩
    · exact Or.inl j2
    · refine Or.inr ⟨j2, by rw [j3]; exact j5, fun i hi => by rw [j6 q q01]; exact qq i hi, fun j _ => ⟨by rw [j6 _ q211, bb _ q210 q211], by rw [j6 _ q221, bb _ q220 q221]⟩, fun i _ => ⟨by rw [j6 O nO1, bb O nO0 nO1], by rw [j6 P nP1, bb P nP0 nP1]⟩, a, s, (0, 0), j3, j4, (F63.same (j7 3 (by decide)) (j7 4 (by decide))).none, by rw [j6 p np1]; exact p63, ⟨Nat.le_refl _, ((x1.trans x63).less (Nat.zero_le _)).trans j8⟩, Or.inl ⟨n9, rfl, by rw [j6 q q01]; exact y, rfl⟩⟩
  · have e0 : x59 ≠ 0 := fun u => y (by rw [g63, if_pos ⟨rfl, rfl⟩]; exact u)
    obtain ⟨ex1, eA9, a58, an58⟩ := k1.resolve_right (fun u => e0 u.1)
    have w9 : W a = 9 := (wt.is han (by decide) (by decide)).mp eA9
    have rc1 : Rc W [50] 0 [61, 34, 50] (a + 1) := hR.trans (Rc.one (mst_n (by decide) (by decide) (ys := [61]) (t := 1) (by show ex54 (W a) = _; unfold ex54; rw [if_pos w9]) (Or.inl (by decide))))
    have a63 : mI M63 (q + 1) 2 = ((a + 1 : Nat) : Int) := by rw [gg _ (by omega)]; exact a58
    have i73 : i32 v73 := by rw [e73]; split <;> exact i32s (by omega) (by omega)
    have c63 : mI M63 (q + 1) 6 ≠ 0 := by rw [rr 6 (by decide)]; exact hr6
    refine (x_TR_readItemRule (k := 2) (d0 := 0) (nms := nms) (ft := ft) (zz := [34, 50]) (by omega) i73 h63 a63 (by omega) p63 hLs hsa d63 (by omega) (h63.2.1.2.2.1.nkc c63) wt63 F63 (by rw [d63]; rfl) hz34 rc1).mono (fun x78 M77 k => ?_)
    obtain ⟨⟨h77, x77, ⟨c77, q77, t77⟩, k77⟩, t22, E, Cf, ec, a9, ea9, iv⟩ := k
    rw [rr 6 (by decide), hr6'] at ec
    have ec : ECq M (q + 1) p n W nq sm nms c 1 E Cf := (ec.to x63.2).to x1.2
    have i78 : i32 x78 := by rcases k77 with u | u <;> rw [u.1] <;> exact i32s (by omega) (by omega)
    refine ⟨i78, h77.1.1.1, fun y => ?_, fun y => ?_⟩
    · obtain ⟨-, u⟩ := k77.resolve_right (fun u => by have := u.1; omega)
      refine ⟨⟨((f0.trans x1.1).trans x63.1).trans x77.1, Or.inl ⟨rfl, h77, u⟩⟩, a9, ea9, Or.inl ⟨rfl, ?_⟩⟩
      rcases iv with ⟨-, iv⟩ | ⟨iv, -⟩
      · exact iv
      · rw [y] at iv; exact absurd iv (by decide)
    obtain ⟨-, e, H, a', cd, p77, a77, aa, an, ea, d77⟩ := k77.resolve_left (fun u => y u.1)
    obtain ⟨-, L9, v1, v2, v3, v4, v5, v6, v7⟩ := iv.resolve_left (fun u => y u.1)
    clear iv
    have ea9' : a' = a9 := by rw [a77] at ea9; omega
    subst ea9'
    have eL : e = L9 := by rw [p77] at v1; omega
    subst eL
    have q8 : mI M63 q 8 = mI M q 8 := qq 8 (by decide)
    have F77 : FT M77 (q + 1) (fst9 ft (vrf W E pl (mI M q 8) (a + 1) a')) := by
      refine irv_ft (x := 0) v5 ?_
      rw [e73, q8]
      rcases n5 with u | u
      · rw [u]; simp
      · rw [u]; simp
    have wt77 : WTq M77 T A B D n W pl nq sm := wt63.fi h63.1 x77.1
    have se : s ≤ e := cd.2.2.2.2.2
    have fo : ∀ i, i < s → mI M77 O i = mI M63 O i ∧ mI M77 P i = mI M63 P i := x77.2.2.2.2.2.2
    rw [h77.1.2.1.2.1]
    refine ⟨h77.1.2.1.1, h77.1.1.2.1.1, (x_rv35 (s := e + 1) (((f0.trans x1.1).trans x63.1).trans x77.1) h77 p77 (by omega) (by omega) a77 an (by rw [d77]; exact d63) ⟨by rw [q77]; exact hn63.1, n2, by rw [(h63.1.words x77.1).1]; exact A63, by rw [q77]; exact hn63.2.2.2.1, by rw [q77]; exact hn63.2.2.2.2.1, fun u => x77.2.2.1 (hn63.2.2.2.2.2 u)⟩ (fun u => ?_) (fun _ => ⟨s, e, H, by rw [t77, if_pos rfl], cd, hLs, by omega⟩) wt77 v7).mono (fun x69 M68 u => ⟨u.1, u.2.1, u.2.2.1, u.2.2.2.1, ?_⟩)⟩
    rotate_left
    · obtain ⟨a8, j1, j2⟩ := u.2.2.2.2
      refine ⟨a8, j1, ?_⟩
      rcases j2 with j2 | ⟨j2, j3, j4, j5, j6, j7, j8⟩
      · exact Or.inl j2
      · refine Or.inr ⟨j2, by rw [j3]; exact j5, fun i hi => by rw [j6 q q01, q77]; exact qq i hi, fun j hj => ⟨by rw [j6 _ q211, t77, if_neg hj, bb _ q210 q211], by rw [j6 _ q221, t22, if_neg hj, bb _ q220 q221]⟩, fun i hi => ⟨by rw [j6 O nO1, (fo i hi).1, bb O nO0 nO1], by rw [j6 P nP1, (fo i hi).2, bb P nP0 nP1]⟩, a', e + 1, _, j3, j4, F77.same (j7 3 (by decide)) (j7 4 (by decide)), by rw [j6 p np1]; exact p77, ⟨by omega, (((x1.trans x63).less (Nat.zero_le _)).trans (x77.less (Nat.zero_le _))).trans j8⟩, Or.inr ⟨w9, by rw [j6 q q01, q77, q7]; exact ex1, E, Cf, v3, ec, rfl, s, e, by rw [j6 _ q211, t77, if_pos rfl], by rw [j6 O nO1]; exact v2, v6.cg (fun t _ _ => ⟨by rw [j6 O nO1], by rw [j6 P nP1]⟩), Nat.lt_succ_self _, by rw [j6 _ q221, t22, if_pos rfl]⟩⟩
    rw [q77] at u
    obtain ⟨u1, u2⟩ := v63 u
    exact ⟨u1.cg (by rw [t77, if_neg (by decide)]) fo (by omega), u2.cg (by rw [t77, if_neg (by decide)]) fo (by omega)⟩
end TXF
