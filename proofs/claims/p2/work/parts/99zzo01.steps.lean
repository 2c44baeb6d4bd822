section
/-! The class's reader of texts, exactly: steps. -/
section TXB
variable {G : mG} {d z q w T A B D N C n p O P K Ab Be Cm V F c s L L' cnt Bn a d0 V1 F1 : Nat} {M0 M M' M1 M2 : mM} {ns ns' ns1 : Nat → Int} {sf ef sf' ef' : Nat → Nat} {H : Nat → Nat} {S R : Nat → Prop} {W pl nq : Nat → Int} {sm : Nat → Nat → Prop} {nms : List nm9} {u : Ru} {ft : Int × Int} {zz zr : List Int}
/-- words stay -/
theorem TP.txt (h : TP M z q w T A B D N C n p O P K Ab Be Cm) (f : FI (txS q p O P) M M') : mI M' T = mI M T := by
  have ap := h.apart
  obtain ⟨⟨-, -, -, -, -, b6, -⟩, -, -, -, -, ⟨-, -, s3⟩, -⟩ := h
  refine f.2.2.2.2.2.2 T (fun y => ?_)
  exact t6a (s3 T (Or.inr (Or.inl rfl))).1 (b6.2.2 T (Or.inr (Or.inl rfl))) y
theorem WTq.fi (wt : WTq M T A B D n W pl nq sm) (h : TP M z q w T A B D N C n p O P K Ab Be Cm) (f : FI (txS q p O P) M M') : WTq M' T A B D n W pl nq sm := by
  obtain ⟨e1, e2, e3, -⟩ := h.words f
  exact wt.cg (h.txt f) e1 e2 e3
theorem x_tx_accept {x : Int} (hx : i32 x) (x0 : x ≠ 0) (h : TX M z q w T A B D N C n p O P K Ab Be Cm V F ns sf ef c cnt L) (ha : mI M (q + 1) 2 = a) (han : a ≤ n) : Ci G y_RR_accept d [vr (q + 1), vi x] M (fun v M' => i32 v ∧ mOk M' ∧ (v = 0 ∨ v = 1) ∧ TX M' z q w T A B D N C n p O P K Ab Be Cm V F ns sf ef c cnt L ∧ txF M q p O P L M' ∧ ((v = 1 ∧ mI M A a = x ∧ mI M' (q + 1) 2 = ((a + 1 : Nat) : Int) ∧ a < n) ∨ (v = 0 ∧ M' = M)) ∧ (∀ i, i ≠ 2 → mI M' (q + 1) i = mI M (q + 1) i) ∧ (∀ b, b ≠ q + 1 → mI M' b = mI M b) ∧ (v = 0 → mI M A a ≠ x)) := by
  refine (s_RR_accept hx h.1.1 ha han).mono (fun v M' k => ?_)
  obtain ⟨k1, k2⟩ := k
  rcases k2 with ⟨e1, e2, e3, e4⟩ | ⟨e1, e2, e3⟩
  · have hN : n ≤ 16384 := by have := h.1.1.2.2.2.1.2.2.1; have := h.1.1.2.2.2.1.1.2.2.2.2.2.2.1; omega
    have u := tx_ui h ⟨by omega, by omega⟩ e3 (Or.inr (Or.inr (Or.inr (Or.inl ⟨rfl, Or.inl rfl⟩))))
    have an : a < n := by
      have : a ≠ n := fun y => by
        have hA := h.1.1.2.2.2.1.2.2.2.2.1
        rw [y, hA] at e2
        exact x0 e2.symm
      omega
    refine ⟨by rw [e1]; exact i32s (by omega) (by omega), k1.1, Or.inr e1, u.1, u.2.1, Or.inl ⟨e1, e2, by rw [e4]; omega, an⟩, fun i hi => by rw [u.2.2, if_neg (fun y => hi y.2)], fun b hb => ?_, fun y => by rw [y] at e1; exact absurd e1 (by decide)⟩
    funext i
    rw [u.2.2, if_neg (fun y => hb y.1)]
  · subst e3
    exact ⟨by rw [e1]; exact i32s (by omega) (by omega), k1.1, Or.inl e1, h, txF.refl, Or.inr ⟨e1, rfl⟩, fun _ _ => rfl, fun _ _ => rfl, fun _ => e2⟩
theorem x_tx_note {x y : Int} (hx : i32 x) (x0 : x ≠ 0) (hy : i32 y) (h : TX M z q w T A B D N C n p O P K Ab Be Cm V F ns sf ef c cnt L) : Cv G y_RR_note d [vr (q + 1), vi x, vi y] M (fun M' => mOk M' ∧ TX M' z q w T A B D N C n p O P K Ab Be Cm V F ns sf ef c cnt L ∧ txF M q p O P L M' ∧ mI M' (q + 1) 3 ≠ 0 ∧ (∀ i, i ≠ 3 → i ≠ 4 → mI M' (q + 1) i = mI M (q + 1) i) ∧ (∀ b, b ≠ q + 1 → mI M' b = mI M b) ∧ Fqq M (q + 1) (x, y) M') := by
  have ap := h.1.apart
  have qp := h.1.2.2.2.2.2.1.2.1
  refine (x_RR_note hx hy h.1.1).mono (fun M' k => ?_)
  obtain ⟨k1, k2, k3, k4, k5, k6⟩ := k
  have n3 : mI M' (q + 1) 3 ≠ 0 := by
    by_cases u : mI M (q + 1) 3 = 0
    · rw [k4 u]; exact x0
    · rw [k5 u]; exact u
  have nb : ∀ b, b ≠ q + 1 → mI M' b = mI M b := fun b hb => k2.2.2.2.2.2.2 b hb
  have ff : txF M q p O P L M' := ⟨k2.mono (fun b y => Or.inl (by have y' : b = q + 1 := y; omega)), fun i _ i3 i4 _ _ _ _ _ => k3 i i3 i4, fun _ => n3, fun i _ _ => nb _ (by omega), fun i _ => by rw [nb p (by first | (have h1 := qp; omega) | omega)], fun i _ _ => nb _ (by omega), fun i _ => ⟨by rw [nb O (by first | (have h1 := ap.2.2.2.1; have h2 := ap.2.1; omega) | omega)], by rw [nb P (by first | (have h1 := ap.2.2.2.2.1; have h2 := ap.2.2.1; omega) | omega)]⟩⟩
  exact ⟨k1.1, h.tx k1.1 ff (fun j => by rw [nb _ (by omega)]; exact h.2.1.2.2.2 j), ff, n3, k3, nb, k6 x0⟩
theorem x_tx_rule {l1 l2 : Int} (i1 : i32 l1) (i2 : i32 l2) (h : TX M z q w T A B D N C n p O P K Ab Be Cm V F ns sf ef c cnt L) (ha : mI M (q + 1) 2 = a) (han : a ≤ n) (hs : mI M p 2 = s) (hLs : L ≤ s) (hsa : s ≤ a) (hd : mI M (q + 1) 5 = d0) (hd4 : d0 ≤ 40) (nk : NK M (q + 1) A n V1 F1 ns1 c) (uq : UQ u M (q + 1) T A B D n c) (hI : ruI u = a) (hF : FT M (q + 1) (uF u)) (hD : mI M (q + 1) 5 = slv (uZ u)) (hask : Hid ((l2 = 0 → uQ u = 5) ∧ (l2 ≠ 0 → uQ u = 6))) (hz : Hid (∀ j, lwx (ruW u j) = 3 → Rf (ruW u) (uZ u) j j)) (hR : Rc (ruW u) (uS u) (uK u) (gyW (uZ u) (uQ u) []) a) : Ci G y_RR_readRule (d + 4) [vr (q + 1), vi l1, vi l2] M (fun x M' => i32 x ∧ mOk M' ∧ ruQ M z q w T A B D N C n p O P K Ab Be Cm V F ns sf ef c cnt L s V1 F1 ns1 a x M' ∧ rleV u (q + 1) p O P s l1 x M') := by
  have ap := h.1.apart
  have qp := h.1.2.2.2.2.2.1.2.1
  refine (x_RR_readRule i1 i2 h.1.1 ha han hs hsa hd hd4 h.2.1.2.2.2 nk uq hI hF hD hask hz hR).mono (fun x M' k => ?_)
  obtain ⟨⟨k1, k2, k3, k4⟩, kv⟩ := k
  have ff := rr_tx h.1 k2
  have hx : x = 0 ∨ x = 1 := by
    rcases k4 with ⟨e, -⟩ | ⟨e, -⟩
    · exact Or.inl e
    · exact Or.inr e
  have nb : ∀ b, b = q ∨ b = q + 21 ∨ b = q + 22 → mI M' b = mI M b := fun b hb => k2.1.2.2.2.2.2.2 b (fun y => by
    exact u7a qp ap.2.1 ap.2.2.1 hb y)
  have ix : i32 x := by
    clear k4
    exact i32s (by omega) (by omega)
  refine ⟨ix, k1.1, ⟨h.tx k1.1 (ff.less hLs) k3, ff, ⟨k2.2.1 6 (by decide) (by decide) (by decide) (by decide) (by decide) (by decide) (by decide), nb q (Or.inl rfl), nb _ (Or.inr (Or.inl rfl)), nb _ (Or.inr (Or.inr rfl))⟩, ?_⟩, kv⟩
  rcases k4 with ⟨e, a', L1, e1, -, e3, -⟩ | ⟨e, H', L1, a', g, haa⟩
  · exact Or.inl ⟨e, a', e1, e3⟩
  · obtain ⟨⟨g1, g2, g3, g4⟩, -, ⟨g5, g6⟩, -, ⟨g8, -⟩, -, -, ⟨gH, gHs⟩, gC, gL, -⟩ := g
    have b0 : bs M' (q + 1) 0 = 0 := rfl
    have s0 : sdp M' (q + 1) 0 = 0 := rfl
    have e0 : se M' (q + 1) 0 = 0 := rfl
    have u0 : uw 0 = 1 := rfl
    have hs0 := (gC s (Nat.le_refl _) (by omega)).2.2
    refine Or.inr ⟨e, L1, H', a', fun pc h0 h1 => ?_, by omega, by omega, by omega, g4, g1, haa, g5, by omega, by rw [g8, s0, hd]; omega⟩
    obtain ⟨c1, c2, c3⟩ := gC pc h0 h1
    refine ⟨c1, fun y => Or.inr ?_, c3⟩
    rcases c2 y with ⟨i, hi, -⟩ | u
    · exact absurd hi (by omega)
    · exact u
/-- a rule of an item, exactly: read from word a on, the pile zz below it, the fault ft before it -/
def irV (W pl E : Nat → Int) (Cf : Nat → Int × Int) (q p O P s a : Nat) (ft : Int × Int) (zz : List Int) (l1 x : Int) (M' : mM) : Prop := ∃ a' : Nat, mI M' (q + 1) 2 = a' ∧ ((x = 0 ∧ Rf W [50] 0 a') ∨ (x = 1 ∧ ∃ L' : Nat, mI M' p 2 = ((L' + 1 : Nat) : Int) ∧ mI M' O L' = 0 ∧ Eo W 6 a a' ∧ mI M' (q + 6) 0 = kdq W E 0 a a' ∧ FT M' (q + 1) (fst9 (fst9 ft (fl W E pl 0 a a')) (kft (l1 = 0 ∨ kdq W E 0 a a' = (if l1 = 2 then 1 else 0)) (pl a))) ∧ Cd W Cf pl (mI M' O) (mI M' P) 0 0 0 a a' s L' ∧ Rc W [50] 0 zz a'))
/-- kinds and orders of words, out of the names -/
def ECq (M : mM) (r p n : Nat) (W nq : Nat → Int) (sm : Nat → Nat → Prop) (nms : List nm9) (c : Nat) (co : Int) (E : Nat → Int) (Cf : Nat → Int × Int) : Prop := (∀ v, n ≤ v → Cf v = (3, 0)) ∧ (CT M r p nms → nms.length = c → (E = E9 sm nms (if co = 0 then 0 else 1) ∧ ∀ v, v < n → (W v = 2 → Cf v = (3, nq v)) ∧ (W v = 12 → Cf v = (3, 1)) ∧ (W v = 13 → Cf v = (3, 0)) ∧ (W v = 1 → E v ≠ -1 → ∃ (i : Nat) (e : nm9), nms[i]? = some e ∧ fnd9 sm nms v = some e ∧ (co = 0 ∨ e.2.1 = 1) ∧ Cf v = (mI M (r + 7) i, mI M (r + 8) i) ∧ ∀ (j : Nat) (e' : nm9), j < i → nms[j]? = some e' → ¬ sm e'.1 v)))
theorem x_TR_readItemRule {k : Nat} {l2 : Int} (hk : k < 3) (i2 : i32 l2) (h : TX M z q w T A B D N C n p O P K Ab Be Cm V F ns sf ef c cnt L) (ha : mI M (q + 1) 2 = a) (han : a ≤ n) (hs : mI M p 2 = s) (hLs : L ≤ s) (hsa : s ≤ a) (hd : mI M (q + 1) 5 = d0) (hd4 : d0 ≤ 40) (nk : NK M (q + 1) A n V1 F1 ns1 c) (wt : WTq M T A B D n W pl nq sm) (hF : FT M (q + 1) ft) (hD : mI M (q + 1) 5 = slv zz) (hz : ∀ j, lwx (W j) = 3 → Rf W zz j j) (hR : Rc W [50] 0 (61 :: zz) a) : Ci G y_TR_readItemRule (d + 5) [vr q, vi k, vi l2] M (fun x M' => irQ M z q w T A B D N C n p O P K Ab Be Cm V F ns sf ef c cnt L s V1 F1 ns1 a k x M' ∧ (∀ i, mI M' (q + 22) i = if i = k then pl a else mI M (q + 22) i) ∧ ∃ E Cf, ECq M (q + 1) p n W nq sm nms c (mI M (q + 1) 6) E Cf ∧ irV W pl E Cf q p O P s a ft zz l2 x M') := by
  have ap := h.1.apart
  have qp := h.1.2.2.2.2.2.1.2.1
  have ok := h.1.1.1
  obtain ⟨t0, t1, t2, t3, t4, t5⟩ := h.1.2.1
  obtain ⟨s1, s2, s3, s4⟩ := h.1.2.2.1
  have hN : n ≤ 16384 := by have := h.1.1.2.2.2.1.2.2.1; have := h.1.1.2.2.2.1.1.2.2.2.2.2.2.1; omega
  refine k_TR_readItemRule ok (i32s (by omega) (by omega)) i2 ?_
  rw [t3, t4, s3, Int.toNat_natCast, hs]
  refine ⟨t0, h.1.1.2.2.2.2.1.1, s1, by omega, fun M5 e5 => ?_⟩
  obtain ⟨h5, x5, g5⟩ := tx_ui h ⟨by omega, by omega⟩ e5 (Or.inr (Or.inl rfl))
  have a5 : mI M5 (q + 1) 2 = a := by rw [g5, if_neg (by omega)]; exact ha
  rw [h5.1.2.1.2.1]
  refine ⟨h5.1.1.2.1.1, (s_RR_here h5.1.1 a5 han).mono (fun x9 M8 kk => ?_)⟩
  obtain ⟨e8, ex9, x0, x1⟩ := kk
  subst e8
  rw [h5.1.2.1.2.2.2.2.2, h5.1.2.2.1.2.2.2]
  refine ⟨i32s (by omega) (by omega), h5.1.1.1, h5.1.2.2.1.2.1, by omega, fun M13 e13 => ?_⟩
  obtain ⟨h13, x13, g13⟩ := tx_ui h5 (i32s (by omega) (by omega)) e13 (Or.inr (Or.inr (Or.inl rfl)))
  have gg : ∀ b i, b ≠ q + 21 → b ≠ q + 22 → mI M13 b i = mI M b i := fun b i b1 b2 => by rw [g13, if_neg (by omega), g5, if_neg (by omega)]
  have ff : ∀ b, b ≠ q + 21 → b ≠ q + 22 → mI M13 b = mI M b := fun b b1 b2 => by funext i; exact gg b i b1 b2
  have nk13 : NK M13 (q + 1) A n V1 F1 ns1 c := by
    unfold NK at nk ⊢
    rw [ff A (fun u => (h.1.2.2.2.2.2.1.2.2 A (by omega)).1 (by omega)) (fun u => (h.1.2.2.2.2.2.1.2.2 A (by omega)).1 (by omega)), gg (q + 1) 19 (by omega) (by omega), gg (q + 1) 6 (by omega) (by omega), ff (q + 1 + 6) (by omega) (by omega), ff (q + 1 + 7) (by omega) (by omega), ff (q + 1 + 8) (by omega) (by omega), ff (q + 1 + 9) (by omega) (by omega)]
    exact nk
  have hw13 : ∀ i, i < c → ∃ v : Nat, mI M13 (q + 1 + 6) i = v ∧ v < n ∧ mI M13 A v = 2 := fun i hi => (nk13.2.2 i hi).1
  have wt13 : WTq M13 T A B D n W pl nq sm := wt.fi h.1 (x5.1.trans x13.1)
  obtain ⟨E, Cf, uq, big, ec⟩ := uq_ex (p := p) (nms := nms) (c := c) wt13 hw13 rfl
  have ecq : ECq M (q + 1) p n W nq sm nms c (mI M (q + 1) 6) E Cf := by
    refine ⟨big, fun ct hl => ?_⟩
    have e6 : mI M13 (q + 1) 6 = mI M (q + 1) 6 := gg _ _ (by omega) (by omega)
    have ct13 : CT M13 (q + 1) p nms := by
      unfold CT at ct ⊢
      rw [gg (q + 1) 19 (by omega) (by omega), ff (q + 1 + 6) (by omega) (by omega), ff (q + 1 + 7) (by omega) (by omega), ff (q + 1 + 8) (by omega) (by omega), ff (q + 1 + 9) (by omega) (by omega), ff (p + 6) (by omega) (by omega), ff (p + 7) (by omega) (by omega)]
      exact ct
    have := ec ct13 hl
    rw [e6, ff (q + 1 + 7) (by omega) (by omega), ff (q + 1 + 8) (by omega) (by omega)] at this
    exact this
  have f13 : txF M q p O P s M13 := by
    have u := x5.trans x13
    exact ⟨u.1, u.2.1, u.2.2.1, u.2.2.2.1, u.2.2.2.2.1, u.2.2.2.2.2.1, fun i _ => ⟨gg O i (by omega) (by omega), gg P i (by omega) (by omega)⟩⟩
  rw [h13.1.2.1.2.1]
  refine ⟨h13.1.2.1.1, h13.1.1.2.1.1, (x_tx_rule (u := (W, E, pl, Cf, (a, ft), (zz, 6), ([50], 0))) i2 (i32s (by omega) (by omega)) h13 (by rw [gg _ _ (by omega) (by omega)]; exact ha) han (by rw [gg p 2 (by omega) (by omega)]; exact hs) hLs hsa (by rw [gg _ _ (by omega) (by omega)]; exact hd) hd4 nk13 (uq _) rfl (hF.same (gg _ _ (by omega) (by omega)) (gg _ _ (by omega) (by omega))) (by rw [gg _ _ (by omega) (by omega)]; exact hD) ⟨fun y => absurd y (by decide), fun _ => rfl⟩ hz hR).mono (fun x18 M17 kk => ?_)⟩
  obtain ⟨i18, o17, ⟨r1, r2, ⟨r3, r4, r5, r6⟩, r7⟩, a9, ea9, rv⟩ := kk
  have T21 : ∀ i, mI M17 (q + 21) i = if i = k then (s : Int) else mI M (q + 21) i := fun i => by
    rw [r5, g13, if_neg (by omega), g5]
    by_cases y : i = k
    · rw [if_pos ⟨rfl, y⟩, if_pos y]
    · rw [if_neg (fun u => y u.2), if_neg y]
  have T22 : ∀ i, mI M17 (q + 22) i = if i = k then pl a else mI M (q + 22) i := fun i => by
    have eB : x9 = pl a := by rw [ex9, (h.1.words x5.1).2.1]; exact (wt.1 a han).2.2
    rw [r6, g13]
    by_cases y : i = k
    · rw [if_pos ⟨rfl, y⟩, if_pos y, eB]
    · rw [if_neg (fun u => y u.2), if_neg y, g5, if_neg (by omega)]
  have b6 : mI M17 (q + 1) 6 = mI M (q + 1) 6 := by rw [r3, gg _ _ (by omega) (by omega)]
  have bq : mI M17 q = mI M q := by rw [r4, ff _ (by omega) (by omega)]
  refine ⟨i18, o17, fun y => ?_, fun y => ?_⟩
  · obtain ⟨-, a', u1, u2⟩ := r7.resolve_right (fun u => by have := u.1; omega)
    refine ⟨⟨r1, f13.trans r2, ⟨b6, bq, T21⟩, Or.inl ⟨rfl, a', u1, u2⟩⟩, T22, E, Cf, ecq, a9, ea9, Or.inl ⟨rfl, ?_⟩⟩
    rcases rv with ⟨-, rv⟩ | ⟨rv, -⟩
    · exact rv
    · exact absurd y (by rw [rv]; decide)
  · obtain ⟨-, e, H, a', u1, u2, u3, u4, u5, u6, u7, u8, u9, u10⟩ := r7.resolve_left (fun u => y u.1)
    rw [r1.1.2.1.2.2.2.1]
    refine ⟨r1.1.2.1.1, r1.1.1.2.2.2.2.1.1, (s_tx_add (i32s (by omega) (by omega)) (i32s (by omega) (by omega)) r1 u5 (by omega) (by omega)).mono (fun v M24 kk => ?_)⟩
    obtain ⟨v1, v2, v3, v4, v5, v6, v7, v8⟩ := kk
    obtain ⟨L9, g1, g2, g3, g4, g5, g6, g7⟩ : rlD (W, E, pl, Cf, (a, ft), (zz, 6), ([50], 0)) (q + 1) p O P s a9 _ M17 := (rv.resolve_left (fun u => y u.1)).2
    have eL : e = L9 := by rw [u5] at g1; omega
    subst eL
    have key : irV W pl E Cf q p O P s a ft zz l2 1 M24 := by
      refine ⟨a9, by rw [v8 (q + 1) (by omega) (by omega) (by omega)]; exact ea9, Or.inr ⟨rfl, e, v5, by rw [v6, if_pos rfl], g2, ?_, ?_, ?_, g7⟩⟩
      · rw [show q + 6 = q + 1 + 5 by omega, v8 (q + 1 + 5) (by omega) (by omega) (by omega)]; exact g3
      · exact g4.same (by rw [v8 (q + 1) (by omega) (by omega) (by omega)]) (by rw [v8 (q + 1) (by omega) (by omega) (by omega)])
      · exact g5.cg (fun t t1 t2 => ⟨by rw [v6, if_neg (by omega)], by rw [v7, if_neg (by omega)]⟩)
    refine ⟨v1, v2, ⟨v3, (f13.trans r2).trans (v4.less (by omega)), ⟨by rw [v8 (q + 1) (by omega) (by omega) (by omega)]; exact b6, by rw [v8 q (by omega) (by omega) (by omega)]; exact bq, fun i => by rw [v8 (q + 21) (by omega) (by omega) (by omega)]; exact T21 i⟩, Or.inr ⟨rfl, e, H, a', ⟨fun pc h0 h1 => ?_, u2, u3, u4, by rw [v6, if_pos rfl], by omega⟩, v5, by rw [v8 (q + 1) (by omega) (by omega) (by omega)]; exact u6, u7, u8, u9, by rw [v8 (q + 1) (by omega) (by omega) (by omega), u10, gg _ _ (by omega) (by omega)]⟩⟩, fun i => by rw [v8 (q + 22) (by omega) (by omega) (by omega)]; exact T22 i, E, Cf, ecq, key⟩
    rw [v6, v7, if_neg (by omega), if_neg (by omega)]
    exact u1 pc h0 h1
end TXB
end
section
/-! The class's reader of texts, exactly: names, consts, formulas. -/
section TXC
variable {G : mG} {d z q w T A B D N C n p O P K Ab Be Cm V F c s L L' cnt Bn a d0 V1 F1 nw : Nat} {M0 M M' M1 M2 : mM} {ns ns' ns1 : Nat → Int} {sf ef sf' ef' : Nat → Nat} {H : Nat → Nat} {S R : Nat → Prop} {W pl nq : Nat → Int} {sm : Nat → Nat → Prop} {nms : List nm9} {ft : Int × Int} {zz zr : List Int}
theorem WTq.is (wt : WTq M T A B D n W pl nq sm) (ha : a ≤ n) {y : Int} (h1 : 1 ≤ y) (h2 : y ≤ 38) : mI M A a = y + 1 ↔ W a = y := by
  obtain ⟨u1, u2, -⟩ := wt.1 a ha
  rw [u2]
  exact (csq_w u1).2.2 y h1 h2
theorem rc_t {y : Int} (h : Rc W [50] 0 (y :: zr) a) (e : W a = y) (hy : y < 50) : Rc W [50] 0 zr (a + 1) := h.trans (Rc.one (mst_t hy e.symm))
theorem rf_t {y : Int} (h : Rc W [50] 0 (y :: zr) a) (e : W a ≠ y) (hy : y < 50) : Rf W [50] 0 a := h.rf (Rf.of (mst_tn hy (fun u => e u.symm)))
theorem CT.cg (ct : CT M (q + 1) p nms) (h19 : mI M' (q + 1) 19 = mI M (q + 1) 19) (h6 : mI M' (q + 1 + 6) = mI M (q + 1 + 6)) (h7 : mI M' (q + 1 + 7) = mI M (q + 1 + 7)) (h8 : mI M' (q + 1 + 8) = mI M (q + 1 + 8)) (h9 : mI M' (q + 1 + 9) = mI M (q + 1 + 9)) (p6 : mI M' (p + 6) = mI M (p + 6)) (p7 : mI M' (p + 7) = mI M (p + 7)) : CT M' (q + 1) p nms := by
  unfold CT at ct ⊢
  rw [h19, h6, h7, h8, h9, p6, p7]
  exact ct
theorem CT.tx (ct : CT M (q + 1) p nms) (f : txE M q p O P s M') : CT M' (q + 1) p nms := by
  obtain ⟨f2, -, f4, -, f6, -⟩ := f
  exact ct.cg (f2 19 (by decide) (by decide) (by decide) (by decide) (by decide) (by decide) (by decide) (by decide)) (f4 6 (by omega) (by omega)) (f4 7 (by omega) (by omega)) (f4 8 (by omega) (by omega)) (f4 9 (by omega) (by omega)) (f6 6 (by omega) (by omega)) (f6 7 (by omega) (by omega))
/-- a name is known already -/
def knf (sm : Nat → Nat → Prop) (pl : Nat → Int) (nms : List nm9) (v : Nat) (f2 : Int × Int) : Prop := (fnd9 sm nms v = none → f2 = (0, 0)) ∧ (fnd9 sm nms v ≠ none → f2 = (2, pl v))
/-- what readName comes to, exactly -/
def rnV (W pl : Nat → Int) (sm : Nat → Nat → Prop) (M : mM) (q p c a : Nat) (nms : List nm9) (ft : Int × Int) (zr : List Int) (x : Int) (M' : mM) : Prop := ∃ a' : Nat, mI M' (q + 1) 2 = a' ∧ ((x = 0 ∧ Rf W [50] 0 a') ∨ (x = 1 ∧ a' = a + 2 ∧ W (a + 1) = 1 ∧ Rc W [50] 0 zr (a + 2) ∧ ∃ f2, FT M' (q + 1) (fst9 ft f2) ∧ (CT M (q + 1) p nms → nms.length = c → knf sm pl nms (a + 1) f2)))
theorem x_rn19 {l1 : Int} {Mc : mM} (hcc : CT Mc (q + 1) p nms → CT M (q + 1) p nms) (h : TX M z q w T A B D N C n p O P K Ab Be Cm V F ns sf ef c cnt L) (f0 : txF M0 q p O P L M) (g0 : nmF M0 q M) (hY : l1 ≠ 0 → mI M (q + 1) 3 ≠ 0) (ha : mI M (q + 1) 2 = a) (han : a < n) (wt : WTq M T A B D n W pl nq sm) (hF : FT M (q + 1) ft) (hR : Rc W [50] 0 (1 :: zr) (a + 1)) : h_TR_readName_19 G (d + 1) q M (fun x M' => rnmQ M0 z q w T A B D N C n p O P K Ab Be Cm V F ns sf ef c cnt L a l1 x M' ∧ rnV W pl sm Mc q p c a nms ft zr x M') := by
  have ap := h.1.apart
  have ok := h.1.1.1
  obtain ⟨t0, t1, t2, t3, t4, t5⟩ := h.1.2.1
  have k4 := h.1.1.2.1.1
  have hN : n ≤ 16384 := by have := h.1.1.2.2.2.1.2.2.1; have := h.1.1.2.2.2.1.1.2.2.2.2.2.2.1; omega
  refine k_TR_readName_19 ok ?_
  rw [t1, ha]
  refine ⟨t0, k4, ⟨by omega, by omega⟩, fun M15 e15 => ?_⟩
  obtain ⟨h15, x15, g15⟩ := tx_ui h ⟨by omega, by omega⟩ e15 (Or.inr (Or.inr (Or.inr (Or.inl ⟨rfl, Or.inl rfl⟩))))
  have a15 : mI M15 (q + 1) 2 = ((a + 1 : Nat) : Int) := by rw [g15, if_pos ⟨rfl, rfl⟩]; omega
  rw [h15.1.2.1.2.1, a15]
  refine ⟨h15.1.1.2.1.1, fun M18 e18 => ?_⟩
  obtain ⟨h18, x18, g18⟩ := tx_ui h15 ⟨by omega, by omega⟩ e18 (Or.inl rfl)
  have a18 : mI M18 (q + 1) 2 = ((a + 1 : Nat) : Int) := by rw [g18, if_neg (by omega)]; exact a15
  have n18 : nmF M0 q M18 := g0.trans ⟨fun i i2 i3 i4 => by rw [g18, if_neg (by omega), g15, if_neg (by omega)], fun i i3 => by rw [g18, if_neg (by omega), g15, if_neg (by omega)], fun b b1 b2 => by
    funext i
    rw [g18, if_neg (by omega), g15, if_neg (by omega)]⟩
  have q18 : mI M18 q 3 = ((a + 1 : Nat) : Int) := by rw [g18, if_pos ⟨rfl, rfl⟩]
  have f18 := (f0.trans x15).trans x18
  have Y18 : l1 ≠ 0 → mI M18 (q + 1) 3 ≠ 0 := fun y => by rw [g18, if_neg (by omega), g15, if_neg (by omega)]; exact hY y
  rw [h18.1.2.1.2.1]
  refine ⟨h18.1.1.2.1.1, (x_tx_accept (x := 2) (i32s (by omega) (by omega)) (by omega) h18 a18 (by omega)).mono (fun v M21 k => ?_)⟩
  obtain ⟨v32, o21, vv, h21, x21, k1, k2, k3, k4'⟩ := k
  have wt18 : WTq M18 T A B D n W pl nq sm := wt.fi h.1 (x15.1.trans x18.1)
  have F18 : FT M18 (q + 1) ft := hF.same (by rw [g18, if_neg (by omega), g15, if_neg (by omega)]) (by rw [g18, if_neg (by omega), g15, if_neg (by omega)])
  have n21 : nmF M0 q M21 := n18.trans ⟨fun i i2 _ _ => k2 i i2, fun i _ => by rw [k3 q (by omega)], fun b _ b2 => k3 b b2⟩
  have f21 := f18.trans x21
  have Y21 : l1 ≠ 0 → mI M21 (q + 1) 3 ≠ 0 := fun y => by rw [k2 3 (by decide)]; exact Y18 y
  refine ⟨v32, o21, fun y => ?_, fun y => ?_⟩
  · have e := (k1.resolve_left (fun u => by have := u.1; omega)).2
    rw [e]
    exact ⟨⟨h18, f18, n18, Y18, Or.inl ⟨rfl, a + 1, a18, by omega⟩⟩, a + 1, a18, Or.inl ⟨rfl, rf_t hR (fun u => k4' y ((wt18.is (by omega) (by omega) (by omega)).mpr u)) (by decide)⟩⟩
  · obtain ⟨e1, e2, e3, e4⟩ := k1.resolve_right (fun u => y u.1)
    have w1 : W (a + 1) = 1 := (wt18.is (by omega) (by omega) (by omega)).mp e2
    have rc2 := rc_t hR w1 (by decide)
    have wt21 : WTq M21 T A B D n W pl nq sm := wt18.fi h18.1 x21.1
    have F21 : FT M21 (q + 1) ft := F18.same (k2 3 (by decide)) (k2 4 (by decide))
    have ct21 : CT Mc (q + 1) p nms → CT M21 (q + 1) p nms := fun ct => (((hcc ct).tx x15.2).tx x18.2).tx x21.2
    have hw21 : ∀ i, i < c → ∃ v : Nat, mI M21 (q + 1 + 6) i = v ∧ v < n ∧ mI M21 A v = 2 := fun i hi => (h21.2.1.2.2.1.2.2 i hi).1
    have A21 : mI M21 A (a + 1) = 2 := by rw [(h18.1.words x21.1).1]; exact e2
    have q21 : mI M21 q 3 = ((a + 1 : Nat) : Int) := by rw [k3 q (by omega)]; exact q18
    rw [h21.1.2.1.2.1, q21]
    refine ⟨h21.1.2.1.1, h21.1.1.2.1.1, (x_RR_find h21.1.1 h21.2.1.2.2.1.nk e4 A21).mono (fun x29 M28 kk => ?_)⟩
    obtain ⟨e28, hx⟩ := kk
    subst e28
    have c72 := h21.2.1.2.2.1.2.1
    have i29 : i32 x29 := by rcases hx with ⟨u, -⟩ | ⟨i, u, hi, -⟩ <;> rw [u] <;> exact i32s (by omega) (by omega)
    obtain ⟨⟨w1', ⟨p0, p3, p4, p5⟩, -, ⟨kA, kB, kD⟩, ⟨cA, cB, cD⟩, w6, w7, w8, -⟩, -⟩ := id h21.1.1.2.2.2.1
    rw [h21.1.2.1.2.1, h21.1.1.2.2.1.1, p4, cB, q21, Int.toNat_natCast]
    have nN := h21.1.1.2.2.2.1.2.2.1
    refine ⟨i29, o21, fun yn => ⟨⟨h21, f21, n21, Y21, Or.inr ⟨rfl, e3, by omega, q21, A21⟩⟩, a + 2, e3, Or.inr ⟨rfl, rfl, w1, rc2, (0, 0), F21.none, fun ct hl => ?_⟩⟩, fun yn => ⟨h21.1.2.1.1, h21.1.1.2.1.1, w1', kB, by omega, (x_tx_note (x := 2) (i32s (by omega) (by omega)) (by omega) (o21 _ _).1 h21).mono (fun M44 kk => ?_)⟩⟩
    · have nn : nmn M28 (q + 1) T B D c (a + 1) := by
        rcases hx with ⟨-, u⟩ | ⟨i, u, hi, -⟩
        · exact u
        · exact absurd yn (by omega)
      rcases (ct21 ct).fnd wt21 (by rw [hl]; exact hw21) e4 w1 with ⟨-, q2⟩ | ⟨i, e, q1, -, -⟩
      · exact ⟨fun _ => rfl, fun z => absurd q2 z⟩
      · rw [hl] at q1; exact absurd q1.2.1 (nn i q1.1)
    obtain ⟨o44, h44, x44, u3, u4, u5, u6⟩ := kk
    have n44 : nmF M0 q M44 := n21.trans ⟨fun i _ i3 i4 => u4 i i3 i4, fun i _ => by rw [u5 q (by omega)], fun b _ b2 => u5 b b2⟩
    have eB : mI M28 B (a + 1) = pl (a + 1) := (wt21.1 (a + 1) (by omega)).2.2
    refine ⟨o44, ⟨h44, f21.trans x44, n44, fun _ => u3, Or.inr ⟨rfl, by rw [u4 2 (by decide) (by decide)]; exact e3, by omega, by rw [u5 q (by omega)]; exact q21, by rw [(h21.1.words x44.1).1]; exact A21⟩⟩, a + 2, by rw [u4 2 (by decide) (by decide)]; exact e3, Or.inr ⟨rfl, rfl, w1, rc2, (2, pl (a + 1)), by rw [← eB]; exact u6 ft F21, fun ct hl => ?_⟩⟩
    rcases (ct21 ct).fnd wt21 (by rw [hl]; exact hw21) e4 w1 with ⟨q1, -⟩ | ⟨i, e, -, -, q3, -⟩
    · rw [hl] at q1
      rcases hx with ⟨u, -⟩ | ⟨i, u, hi⟩
      · exact absurd u (by omega)
      · exact absurd hi.2.1 (q1 i hi.1)
    · exact ⟨fun z => absurd (q3.symm.trans z) (by simp), fun _ => rfl⟩
theorem x_TR_readName {l1 : Int} (i1 : i32 l1) (h : TX M z q w T A B D N C n p O P K Ab Be Cm V F ns sf ef c cnt L) (ha : mI M (q + 1) 2 = a) (han : a < n) (wt : WTq M T A B D n W pl nq sm) (hF : FT M (q + 1) ft) (hR : Rc W [50] 0 (1 :: zr) (a + 1)) : Ci G y_TR_readName (d + 2) [vr q, vi l1] M (fun x M' => rnmQ M z q w T A B D N C n p O P K Ab Be Cm V F ns sf ef c cnt L a l1 x M' ∧ rnV W pl sm M q p c a nms (fst9 ft (if l1 = 0 then (0, 0) else (5, pl a))) zr x M') := by
  have ok := h.1.1.1
  obtain ⟨t0, t1, t2, t3, t4, t5⟩ := h.1.2.1
  have k4 := h.1.1.2.1.1
  refine k_TR_readName ok i1 ⟨fun y => x_rn19 (fun z => z) h txF.refl nmF.refl (fun u => absurd y u) ha han wt (by rw [if_pos y]; exact hF.none) hR, fun y => ?_⟩
  rw [t1]
  refine ⟨t0, k4, (s_RR_here h.1.1 ha (by omega)).mono (fun x6 M5 k => ?_)⟩
  obtain ⟨e5, ex6, x0, x1⟩ := k
  subst e5
  refine ⟨i32s (by omega) (by omega), ok, k4, (x_tx_note (x := 5) (i32s (by omega) (by omega)) (by omega) (i32s (by omega) (by omega)) h).mono (fun M9 kk => ?_)⟩
  obtain ⟨o9, h9, x9, u3, u4, u5, u6⟩ := kk
  have eB : x6 = pl a := by rw [ex6]; exact (wt.1 a (by omega)).2.2
  have F9 := u6 ft hF
  rw [eB] at F9
  rw [if_neg y]
  refine ⟨o9, ?_⟩
  have key := x_rn19 (G := G) (d := d) (sm := sm) (nms := nms) (l1 := l1) (Mc := M5) (fun ct => ct.tx x9.2) h9 x9 ⟨fun i _ i3 i4 => u4 i i3 i4, fun i _ => by rw [u5 q (by omega)], fun b _ b2 => u5 b b2⟩ (fun _ => u3) (by rw [u4 2 (by decide) (by decide)]; exact ha) han (wt.fi h.1 x9.1) F9 hR
  exact key
end TXC
end
