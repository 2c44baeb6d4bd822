section
/-! The class's reader of texts: names, and the rules of items. -/
section TRC
variable {G : mG} {d z q w T A B D N C n p O P K Ab Be Cm V F c s L L' cnt Bn a d0 V1 F1 : Nat} {M0 M M' M1 M2 : mM} {ns ns' ns1 : Nat → Int} {sf ef sf' ef' : Nat → Nat} {H : Nat → Nat} {S R : Nat → Prop}
def nmF (M0 : mM) (q : Nat) (M : mM) : Prop := (∀ i, i ≠ 2 → i ≠ 3 → i ≠ 4 → mI M (q + 1) i = mI M0 (q + 1) i) ∧ (∀ i, i ≠ 3 → mI M q i = mI M0 q i) ∧ (∀ b, b ≠ q → b ≠ q + 1 → mI M b = mI M0 b)
theorem nmF.refl : nmF M q M := ⟨fun _ _ _ _ => rfl, fun _ _ => rfl, fun _ _ _ => rfl⟩
theorem nmF.trans (f : nmF M0 q M1) (g : nmF M1 q M2) : nmF M0 q M2 := ⟨fun i i2 i3 i4 => by rw [g.1 i i2 i3 i4, f.1 i i2 i3 i4], fun i i3 => by rw [g.2.1 i i3, f.2.1 i i3], fun b b1 b2 => by rw [g.2.2 b b1 b2, f.2.2 b b1 b2]⟩
/-- what readName comes to -/
def rnmQ (M0 : mM) (z q w T A B D N C n p O P K Ab Be Cm V F : Nat) (ns : Nat → Int) (sf ef : Nat → Nat) (c cnt L a : Nat) (l1 : Int) (x : Int) (M' : mM) : Prop := TX M' z q w T A B D N C n p O P K Ab Be Cm V F ns sf ef c cnt L ∧ txF M0 q p O P L M' ∧ nmF M0 q M' ∧ (l1 ≠ 0 → mI M' (q + 1) 3 ≠ 0) ∧ ((x = 0 ∧ ∃ a' : Nat, mI M' (q + 1) 2 = a' ∧ a' ≤ n) ∨ (x = 1 ∧ mI M' (q + 1) 2 = ((a + 2 : Nat) : Int) ∧ a + 2 ≤ n ∧ mI M' q 3 = ((a + 1 : Nat) : Int) ∧ mI M' A (a + 1) = 2))
theorem s_rn19 {l1 : Int} (h : TX M z q w T A B D N C n p O P K Ab Be Cm V F ns sf ef c cnt L) (f0 : txF M0 q p O P L M) (g0 : nmF M0 q M) (hY : l1 ≠ 0 → mI M (q + 1) 3 ≠ 0) (ha : mI M (q + 1) 2 = a) (han : a < n) : h_TR_readName_19 G (d + 1) q M (rnmQ M0 z q w T A B D N C n p O P K Ab Be Cm V F ns sf ef c cnt L a l1) := by
  have ap := h.1.apart
  have ok := h.1.1.1
  obtain ⟨t0, t1, t2, t3, t4, t5⟩ := h.1.2.1
  have k4 := h.1.1.2.1.1
  have hN : n ≤ 16384 := by have := h.1.1.2.2.2.1.2.2.1; have := h.1.1.2.2.2.1.1.2.2.2.2.2.2.1; omega
  refine k_TR_readName_19 ok ?_
  rw [t1, ha]
  refine ⟨t0, k4, ⟨by omega, by omega⟩, fun M15 e15 => ?_⟩
  obtain ⟨h15, x15, g15⟩ := tx_ui h ⟨by omega, by omega⟩ e15 (Or.inr (Or.inr (Or.inr (Or.inl ⟨rfl, Or.inl rfl⟩))))
  have a15 : mI M15 (q + 1) 2 = ((a + 1 : Nat) : Int) := by rw [g15, if_pos ⟨rfl, rfl⟩]; omega
  rw [h15.1.2.1.2.1, a15]
  refine ⟨h15.1.1.2.1.1, fun M18 e18 => ?_⟩
  obtain ⟨h18, x18, g18⟩ := tx_ui h15 ⟨by omega, by omega⟩ e18 (Or.inl rfl)
  have a18 : mI M18 (q + 1) 2 = ((a + 1 : Nat) : Int) := by rw [g18, if_neg (by omega)]; exact a15
  have n18 : nmF M0 q M18 := g0.trans ⟨fun i i2 i3 i4 => by rw [g18, if_neg (by omega), g15, if_neg (by omega)], fun i i3 => by rw [g18, if_neg (by omega), g15, if_neg (by omega)], fun b b1 b2 => by
    funext i
    rw [g18, if_neg (by omega), g15, if_neg (by omega)]⟩
  have q18 : mI M18 q 3 = ((a + 1 : Nat) : Int) := by rw [g18, if_pos ⟨rfl, rfl⟩]
  have f18 := (f0.trans x15).trans x18
  have Y18 : l1 ≠ 0 → mI M18 (q + 1) 3 ≠ 0 := fun y => by rw [g18, if_neg (by omega), g15, if_neg (by omega)]; exact hY y
  rw [h18.1.2.1.2.1]
  refine ⟨h18.1.1.2.1.1, (s_tx_accept (i32s (by omega) (by omega)) (by omega) h18 a18 (by omega)).mono (fun v M21 k => ?_)⟩
  obtain ⟨v32, o21, vv, h21, x21, k1, k2, k3⟩ := k
  have n21 : nmF M0 q M21 := n18.trans ⟨fun i i2 _ _ => k2 i i2, fun i _ => by rw [k3 q (by omega)], fun b _ b2 => k3 b b2⟩
  have f21 := f18.trans x21
  have Y21 : l1 ≠ 0 → mI M21 (q + 1) 3 ≠ 0 := fun y => by rw [k2 3 (by decide)]; exact Y18 y
  refine ⟨v32, o21, fun y => ?_, fun y => ?_⟩
  · have e := (k1.resolve_left (fun u => by have := u.1; omega)).2
    rw [e]
    exact ⟨h18, f18, n18, Y18, Or.inl ⟨rfl, a + 1, a18, by omega⟩⟩
  · obtain ⟨e1, e2, e3, e4⟩ := k1.resolve_right (fun u => y u.1)
    have A21 : mI M21 A (a + 1) = 2 := by rw [(h18.1.words x21.1).1]; exact e2
    have q21 : mI M21 q 3 = ((a + 1 : Nat) : Int) := by rw [k3 q (by omega)]; exact q18
    rw [h21.1.2.1.2.1, q21]
    refine ⟨h21.1.2.1.1, h21.1.1.2.1.1, (s_RR_find h21.1.1 h21.2.1.2.2.1.nk e4 A21).mono (fun x29 M28 kk => ?_)⟩
    obtain ⟨e28, hx⟩ := kk
    subst e28
    have c72 := h21.2.1.2.2.1.2.1
    have i29 : i32 x29 := by rcases hx with u | ⟨i, u, hi⟩ <;> rw [u] <;> exact i32s (by omega) (by omega)
    obtain ⟨⟨w1, ⟨p0, p3, p4, p5⟩, -, ⟨kA, kB, kD⟩, ⟨cA, cB, cD⟩, w6, w7, w8, -⟩, -⟩ := id h21.1.1.2.2.2.1
    rw [h21.1.2.1.2.1, h21.1.1.2.2.1.1, p4, cB, q21, Int.toNat_natCast]
    have nN := h21.1.1.2.2.2.1.2.2.1
    refine ⟨i29, o21, fun _ => ⟨h21, f21, n21, Y21, Or.inr ⟨rfl, e3, by omega, q21, A21⟩⟩, fun _ => ⟨h21.1.2.1.1, h21.1.1.2.1.1, w1, kB, by omega, (s_tx_note (i32s (by omega) (by omega)) (by omega) (o21 _ _).1 h21).mono (fun M44 kk => ?_)⟩⟩
    obtain ⟨o44, h44, x44, u3, u4, u5⟩ := kk
    have n44 : nmF M0 q M44 := n21.trans ⟨fun i _ i3 i4 => u4 i i3 i4, fun i _ => by rw [u5 q (by omega)], fun b _ b2 => u5 b b2⟩
    exact ⟨o44, h44, f21.trans x44, n44, fun _ => u3, Or.inr ⟨rfl, by rw [u4 2 (by decide) (by decide)]; exact e3, by omega, by rw [u5 q (by omega)]; exact q21, by rw [(h21.1.words x44.1).1]; exact A21⟩⟩
theorem s_TR_readName {l1 : Int} (i1 : i32 l1) (h : TX M z q w T A B D N C n p O P K Ab Be Cm V F ns sf ef c cnt L) (ha : mI M (q + 1) 2 = a) (han : a < n) : Ci G y_TR_readName (d + 2) [vr q, vi l1] M (rnmQ M z q w T A B D N C n p O P K Ab Be Cm V F ns sf ef c cnt L a l1) := by
  have ok := h.1.1.1
  obtain ⟨t0, t1, t2, t3, t4, t5⟩ := h.1.2.1
  have k4 := h.1.1.2.1.1
  refine k_TR_readName ok i1 ⟨fun y => s_rn19 h txF.refl nmF.refl (fun u => absurd y u) ha han, fun y => ?_⟩
  rw [t1]
  refine ⟨t0, k4, (s_RR_here h.1.1 ha (by omega)).mono (fun x6 M5 k => ?_)⟩
  obtain ⟨e5, -, x0, x1⟩ := k
  subst e5
  refine ⟨i32s (by omega) (by omega), ok, k4, (s_tx_note (i32s (by omega) (by omega)) (by omega) (i32s (by omega) (by omega)) h).mono (fun M9 kk => ?_)⟩
  obtain ⟨o9, h9, x9, u3, u4, u5⟩ := kk
  exact ⟨o9, s_rn19 h9 x9 ⟨fun i _ i3 i4 => u4 i i3 i4, fun i _ => by rw [u5 q (by omega)], fun b _ b2 => u5 b b2⟩ (fun _ => u3) (by rw [u4 2 (by decide) (by decide)]; exact ha) han⟩
/-- a rule of an item -/
def irQ (M : mM) (z q w T A B D N C n p O P K Ab Be Cm V F : Nat) (ns : Nat → Int) (sf ef : Nat → Nat) (c cnt L s V1 F1 : Nat) (ns1 : Nat → Int) (a k : Nat) (x : Int) (M' : mM) : Prop := TX M' z q w T A B D N C n p O P K Ab Be Cm V F ns sf ef c cnt L ∧ txF M q p O P s M' ∧ (mI M' (q + 1) 6 = mI M (q + 1) 6 ∧ mI M' q = mI M q ∧ (∀ i, mI M' (q + 21) i = if i = k then (s : Int) else mI M (q + 21) i)) ∧ ((x = 0 ∧ ∃ a' : Nat, mI M' (q + 1) 2 = a' ∧ a' ≤ n) ∨ (x = 1 ∧ ∃ e H a', Cod M' O P V1 F1 ns1 s e H 1 ∧ mI M' p 2 = ((e + 1 : Nat) : Int) ∧ mI M' (q + 1) 2 = ((a' : Nat) : Int) ∧ a ≤ a' ∧ a' ≤ n ∧ e ≤ a' ∧ mI M' (q + 1) 5 = mI M (q + 1) 5))
theorem s_TR_readItemRule {k : Nat} {l2 : Int} (hk : k < 3) (i2 : i32 l2) (h : TX M z q w T A B D N C n p O P K Ab Be Cm V F ns sf ef c cnt L) (ha : mI M (q + 1) 2 = a) (han : a ≤ n) (hs : mI M p 2 = s) (hLs : L ≤ s) (hsa : s ≤ a) (hd : mI M (q + 1) 5 = d0) (hd4 : d0 ≤ 40) (nk : NK M (q + 1) A n V1 F1 ns1 c) : Ci G y_TR_readItemRule (d + 5) [vr q, vi k, vi l2] M (irQ M z q w T A B D N C n p O P K Ab Be Cm V F ns sf ef c cnt L s V1 F1 ns1 a k) := by
  have ap := h.1.apart
  have qp := h.1.2.2.2.2.2.1.2.1
  have ok := h.1.1.1
  obtain ⟨t0, t1, t2, t3, t4, t5⟩ := h.1.2.1
  obtain ⟨s1, s2, s3, s4⟩ := h.1.2.2.1
  have hN : n ≤ 16384 := by have := h.1.1.2.2.2.1.2.2.1; have := h.1.1.2.2.2.1.1.2.2.2.2.2.2.1; omega
  refine k_TR_readItemRule ok (i32s (by omega) (by omega)) i2 ?_
  rw [t3, t4, s3, Int.toNat_natCast, hs]
  refine ⟨t0, h.1.1.2.2.2.2.1.1, s1, by omega, fun M5 e5 => ?_⟩
  obtain ⟨h5, x5, g5⟩ := tx_ui h ⟨by omega, by omega⟩ e5 (Or.inr (Or.inl rfl))
  have a5 : mI M5 (q + 1) 2 = a := by rw [g5, if_neg (by omega)]; exact ha
  rw [h5.1.2.1.2.1]
  refine ⟨h5.1.1.2.1.1, (s_RR_here h5.1.1 a5 han).mono (fun x9 M8 kk => ?_)⟩
  obtain ⟨e8, -, x0, x1⟩ := kk
  subst e8
  rw [h5.1.2.1.2.2.2.2.2, h5.1.2.2.1.2.2.2]
  refine ⟨i32s (by omega) (by omega), h5.1.1.1, h5.1.2.2.1.2.1, by omega, fun M13 e13 => ?_⟩
  obtain ⟨h13, x13, g13⟩ := tx_ui h5 (i32s (by omega) (by omega)) e13 (Or.inr (Or.inr (Or.inl rfl)))
  have gg : ∀ b i, b ≠ q + 21 → b ≠ q + 22 → mI M13 b i = mI M b i := fun b i b1 b2 => by rw [g13, if_neg (by omega), g5, if_neg (by omega)]
  have ff : ∀ b, b ≠ q + 21 → b ≠ q + 22 → mI M13 b = mI M b := fun b b1 b2 => by funext i; exact gg b i b1 b2
  have nk13 : NK M13 (q + 1) A n V1 F1 ns1 c := by
    unfold NK at nk ⊢
    rw [ff A (fun u => (h.1.2.2.2.2.2.1.2.2 A (by omega)).1 (by omega)) (fun u => (h.1.2.2.2.2.2.1.2.2 A (by omega)).1 (by omega)), gg (q + 1) 19 (by omega) (by omega), gg (q + 1) 6 (by omega) (by omega), ff (q + 1 + 6) (by omega) (by omega), ff (q + 1 + 7) (by omega) (by omega), ff (q + 1 + 8) (by omega) (by omega), ff (q + 1 + 9) (by omega) (by omega)]
    exact nk
  have f13 : txF M q p O P s M13 := by
    have u := x5.trans x13
    exact ⟨u.1, u.2.1, u.2.2.1, u.2.2.2.1, u.2.2.2.2.1, u.2.2.2.2.2.1, fun i _ => ⟨gg O i (by omega) (by omega), gg P i (by omega) (by omega)⟩⟩
  rw [h13.1.2.1.2.1]
  refine ⟨h13.1.2.1.1, h13.1.1.2.1.1, (s_tx_rule i2 (i32s (by omega) (by omega)) h13 (by rw [gg _ _ (by omega) (by omega)]; exact ha) han (by rw [gg p 2 (by omega) (by omega)]; exact hs) hLs hsa (by rw [gg _ _ (by omega) (by omega)]; exact hd) hd4 nk13).mono (fun x18 M17 kk => ?_)⟩
  obtain ⟨i18, o17, r1, r2, ⟨r3, r4, r5, r6⟩, r7⟩ := kk
  have T21 : ∀ i, mI M17 (q + 21) i = if i = k then (s : Int) else mI M (q + 21) i := fun i => by
    rw [r5, g13, if_neg (by omega), g5]
    by_cases y : i = k
    · rw [if_pos ⟨rfl, y⟩, if_pos y]
    · rw [if_neg (fun u => y u.2), if_neg y]
  have b6 : mI M17 (q + 1) 6 = mI M (q + 1) 6 := by rw [r3, gg _ _ (by omega) (by omega)]
  have bq : mI M17 q = mI M q := by rw [r4, ff _ (by omega) (by omega)]
  refine ⟨i18, o17, fun y => ?_, fun y => ?_⟩
  · obtain ⟨-, a', u1, u2⟩ := r7.resolve_right (fun u => by have := u.1; omega)
    exact ⟨r1, f13.trans r2, ⟨b6, bq, T21⟩, Or.inl ⟨rfl, a', u1, u2⟩⟩
  · obtain ⟨-, e, H, a', u1, u2, u3, u4, u5, u6, u7, u8, u9, u10⟩ := r7.resolve_left (fun u => y u.1)
    rw [r1.1.2.1.2.2.2.1]
    refine ⟨r1.1.2.1.1, r1.1.1.2.2.2.2.1.1, (s_tx_add (i32s (by omega) (by omega)) (i32s (by omega) (by omega)) r1 u5 (by omega) (by omega)).mono (fun v M24 kk => ?_)⟩
    obtain ⟨v1, v2, v3, v4, v5, v6, v7, v8⟩ := kk
    refine ⟨v1, v2, v3, (f13.trans r2).trans (v4.less (by omega)), ⟨by rw [v8 (q + 1) (by omega) (by omega) (by omega)]; exact b6, by rw [v8 q (by omega) (by omega) (by omega)]; exact bq, fun i => by rw [v8 (q + 21) (by omega) (by omega) (by omega)]; exact T21 i⟩, Or.inr ⟨rfl, e, H, a', ⟨fun pc h0 h1 => ?_, u2, u3, u4, by rw [v6, if_pos rfl], by omega⟩, v5, by rw [v8 (q + 1) (by omega) (by omega) (by omega)]; exact u6, u7, u8, u9, by rw [v8 (q + 1) (by omega) (by omega) (by omega), u10, gg _ _ (by omega) (by omega)]⟩⟩
    rw [v6, v7, if_neg (by omega), if_neg (by omega)]
    exact u1 pc h0 h1
end TRC
end
section
/-! The class's reader of texts: const, formula, target. -/
section TRD
variable {G : mG} {d z q w T A B D N C n p O P K Ab Be Cm V F c s L L' cnt Bn a d0 V1 F1 nw : Nat} {M0 M M' M1 M2 : mM} {ns ns' ns1 : Nat → Int} {sf ef sf' ef' : Nat → Nat} {H : Nat → Nat} {S R : Nat → Prop}
/-- it does not stand: the reader stays sound -/
def nstQ (z q w T A B D N C n p O P K Ab Be Cm V F : Nat) (ns : Nat → Int) (sf ef : Nat → Nat) (c cnt L : Nat) (M' : mM) : Prop := TX M' z q w T A B D N C n p O P K Ab Be Cm V F ns sf ef c cnt L ∧ ∃ a' : Nat, mI M' (q + 1) 2 = a' ∧ a' ≤ n
def vco (l1 : Int) (V : Nat) : Nat := if l1 = 4 then 0 else V
def nco (l1 : Int) (ns : Nat → Int) : Nat → Int := if l1 = 4 then nsc ns else ns
/-- a const or formula stands: its code from L to e -/
def ndQ (M0 : mM) (z q w T A B D N C n p O P K Ab Be Cm V F : Nat) (ns : Nat → Int) (sf ef : Nat → Nat) (c cnt L : Nat) (l1 : Int) (x : Int) (M' : mM) : Prop := FI (txS q p O P) M0 M' ∧ ((x = 0 ∧ nstQ z q w T A B D N C n p O P K Ab Be Cm V F ns sf ef c cnt L M') ∨ (x = 1 ∧ TX M' z q w T A B D N C n p O P K Ab Be Cm V F ns sf ef c cnt L ∧ (60 ≤ F → mI M' (q + 1) 3 ≠ 0) ∧ ∃ e a' nw : Nat, ∃ H : Nat → Nat, Cod M' O P (vco l1 V) F (nco l1 ns) L e H 1 ∧ mI M' p 2 = ((e + 1 : Nat) : Int) ∧ mI M' (q + 1) 2 = (a' : Int) ∧ a' ≤ n ∧ e + 1 ≤ a' ∧ mI M' (q + 1) 5 = 0 ∧ mI M' q 3 = (nw : Int) ∧ nw < n ∧ mI M' A nw = 2 ∧ (mI M' q 8 = 0 ∨ mI M' q 8 = 1) ∧ mI M' (q + 21) 0 = (L : Int)))
/-- what lies apart -/
theorem TP.ne (h : TP M z q w T A B D N C n p O P K Ab Be Cm) : (p ≠ q ∧ p ≠ q + 1 ∧ p ≠ q + 21 ∧ p ≠ q + 22) ∧ (O ≠ q ∧ O ≠ q + 1 ∧ O ≠ q + 21 ∧ O ≠ q + 22 ∧ O ≠ p) ∧ (P ≠ q ∧ P ≠ q + 1 ∧ P ≠ q + 21 ∧ P ≠ q + 22 ∧ P ≠ p) := by
  have ap := h.apart
  have qp := h.2.2.2.2.2.1.2.1
  clear h
  omega
theorem q_ne (q : Nat) : q ≠ q + 1 ∧ q + 1 ≠ q ∧ q + 21 ≠ q ∧ q + 21 ≠ q + 1 ∧ q ≠ q + 21 ∧ q + 1 ≠ q + 21 ∧ q + 22 ≠ q ∧ q + 22 ≠ q + 1 ∧ q + 6 ≠ q + 1 ∧ q + 6 ≠ q := by omega
/-- from the rule on -/
theorem s_nd_tail {l1 : Int} (f0 : FI (txS q p O P) M0 M) (h : TX M z q w T A B D N C n p O P K Ab Be Cm V F ns sf ef c cnt L) (ha : mI M (q + 1) 2 = ((a : Nat) : Int)) (han : a ≤ n) (hs : mI M p 2 = ((L : Nat) : Int)) (hsa : L ≤ a) (hd : mI M (q + 1) 5 = ((0 : Nat) : Int)) (nk : NK M (q + 1) A n (vco l1 V) F (nco l1 ns) c) (hn : mI M q 3 = ((nw : Nat) : Int) ∧ nw < n ∧ mI M A nw = 2) (hY : 60 ≤ F → mI M (q + 1) 3 ≠ 0) : Ci G y_TR_readItemRule (d + 5) [vr q, vi 0, vi 0] M (fun x32 M31 => i32 x32 ∧ mOk M31 ∧ (((x32 = 0) → (ndQ M0 z q w T A B D N C n p O P K Ab Be Cm V F ns sf ef c cnt L l1 0 M31)) ∧ (¬ (x32 = 0) → (mK M31 q = 3 ∧ mK M31 (mR M31 q 0) = 4 ∧ Ci G y_RR_isTruth (d + 5) [vr (mR M31 q 0)] M31 (fun x39 M38 => i32 x39 ∧ mOk M38 ∧ (mK M38 q = 3 ∧ (x39 = 0 ∨ x39 = 1) ∧ ∀ M43, M43 = mUI M38 q 8 x39 → mK M43 (mR M43 q 0) = 4 ∧ Ci G y_RR_accept (d + 5) [vr (mR M43 q 0), vi 35] M43 (fun x47 M46 => i32 x47 ∧ mOk M46 ∧ ((x47 = 0 ∨ x47 = 1) ∧ ndQ M0 z q w T A B D N C n p O P K Ab Be Cm V F ns sf ef c cnt L l1 x47 M46)))))))) := by
  obtain ⟨⟨np0, np1, -, -⟩, ⟨nO0, nO1, -, -, -⟩, nP0, nP1, -, -, -⟩ := h.1.ne
  obtain ⟨q01, q10, q210, q211, -⟩ := q_ne q
  refine (s_TR_readItemRule (k := 0) (d0 := 0) (by omega) (i32s (by omega) (by omega)) h ha han hs (Nat.le_refl _) hsa hd (by omega) nk).mono (fun x32 M31 k => ?_)
  clear nk
  obtain ⟨h31, x31, ⟨-, q31, t31⟩, k31⟩ := k
  have i32' : i32 x32 := by
    clear h h31 x31 t31
    rcases k31 with u | u <;> rw [u.1] <;> exact ⟨by decide, by decide⟩
  refine ⟨i32', h31.1.1.1, fun y => ?_, fun y => ?_⟩
  · obtain ⟨-, u⟩ := k31.resolve_right (fun u => by rw [y] at u; exact absurd u.1 (by decide))
    exact ⟨f0.trans x31.1, Or.inl ⟨rfl, h31, u⟩⟩
  obtain ⟨-, e, H, a', cd, p31, a31, aa, an, ea, d31⟩ := k31.resolve_left (fun u => y u.1)
  clear k31
  rw [h31.1.2.1.2.1]
  refine ⟨h31.1.2.1.1, h31.1.1.2.1.1, (s_RR_isTruth h31.1.1 h31.2.1.2.2.2).mono (fun x39 M38 k => ?_)⟩
  obtain ⟨e38, hx39⟩ := k
  subst e38
  have i39 : i32 x39 := m_b32 hx39
  refine ⟨i39, h31.1.1.1, h31.1.2.1.1, hx39, fun M43 e43 => ?_⟩
  obtain ⟨h43, x43, g43⟩ := tx_ui h31 i39 e43 (Or.inl rfl)
  have gg : ∀ b, b ≠ q → mI M43 b = mI M38 b := fun b hb => by
    funext i
    rw [g43, if_neg (fun u => hb u.1)]
  rw [h43.1.2.1.2.1]
  refine ⟨h43.1.1.2.1.1, (s_tx_accept (x := 35) (i32s (by omega) (by omega)) (by omega) h43 (by rw [gg _ q10]; exact a31) an).mono (fun x47 M46 k => ?_)⟩
  obtain ⟨i47, o46, hx47, h46, x46, k46, r46, b46⟩ := k
  refine ⟨i47, o46, hx47, ?_⟩
  rcases k46 with ⟨e1, -, a46, an46⟩ | ⟨e1, e2⟩
  · refine ⟨((f0.trans x31.1).trans x43.1).trans x46.1, Or.inr ⟨e1, h46, fun y60 => x46.2.2.1 (x43.2.2.1 (x31.2.2.1 (hY y60))), e, a' + 1, nw, H, ?_, ?_, a46, an46, Nat.succ_le_succ ea, ?_, ?_, hn.2.1, ?_, ?_, ?_⟩⟩
    · exact cd.cg (fun i _ => by rw [b46 O nO1, gg O nO0]) (fun i _ => by rw [b46 P nP1, gg P nP0])
    · rw [b46 p np1, gg p np0]; exact p31
    · rw [r46 5 (by decide), gg _ q10, d31]; exact hd
    · rw [b46 q q01, g43, if_neg (fun u => absurd u.2 (by decide)), q31]; exact hn.1
    · rw [(h43.1.words x46.1).1, (h31.1.words x43.1).1, (h.1.words x31.1).1]; exact hn.2.2
    · rw [b46 q q01, g43, if_pos ⟨rfl, rfl⟩]; exact hx39
    · rw [b46 _ q211, gg _ q210, t31, if_pos rfl]
  · rw [e2]
    exact ⟨(f0.trans x31.1).trans x43.1, Or.inl ⟨e1, h43, a', by rw [gg _ q10]; exact a31, an⟩⟩
theorem s_TR_readNamed {l1 : Int} (h4 : l1 = 4 ∨ l1 = 7) (h : TX M z q w T A B D N C n p O P K Ab Be Cm V F ns sf ef c cnt L) (ha : mI M (q + 1) 2 = a) (han : a < n) (hs : mI M p 2 = L) (hsa : L ≤ a) (hd : mI M (q + 1) 5 = 0) : Ci G y_TR_readNamed (d + 6) [vr q, vi l1] M (ndQ M z q w T A B D N C n p O P K Ab Be Cm V F ns sf ef c cnt L l1) := by
  obtain ⟨⟨np0, np1, -, -⟩, -, -⟩ := h.1.ne
  obtain ⟨q01, q10, q210, q211, -⟩ := q_ne q
  have ok := h.1.1.1
  obtain ⟨t0, t1, t2, t3, t4, t5⟩ := h.1.2.1
  refine k_TR_readNamed ok (i32s (by omega) (by omega)) ⟨t0, fun v3 e3 => ?_⟩
  have b3 : v3 = 0 ∨ v3 = 1 := by rw [e3]; split <;> omega
  rw [t1]
  refine ⟨h.1.1.2.1.1, fun M9 e9 => ?_⟩
  obtain ⟨h9, x9, g9⟩ := tx_ui h (m_b32 b3) e9 (Or.inr (Or.inr (Or.inr (Or.inl ⟨rfl, Or.inr (Or.inr rfl)⟩))))
  rw [h9.1.2.1.2.2.2.1]
  refine ⟨h9.1.1.2.2.2.2.1.1, fun v13 e13 => ?_⟩
  have b13 : v13 = 0 ∨ v13 = 1 := by rw [e13]; split <;> omega
  have f9 := h9.2.1.2.1.1
  have y13 : 60 ≤ F → v13 ≠ 0 := fun y => by rw [e13, if_neg (by omega)]; decide
  refine (s_TR_readName (a := a) (m_b32 b13) h9 (by rw [g9, if_neg (fun u => absurd u.2 (by decide))]; exact ha) han).mono (fun x19 M18 k => ?_)
  obtain ⟨h18, x18, n18, y18, k18⟩ := k
  have i19 : i32 x19 := by rcases k18 with u | u <;> rw [u.1] <;> exact ⟨by decide, by decide⟩
  refine ⟨i19, h18.1.1.1, fun y => ?_, fun y => ?_⟩
  · obtain ⟨-, u⟩ := k18.resolve_right (fun u => by rw [y] at u; exact absurd u.1 (by decide))
    exact ⟨x9.1.trans x18.1, Or.inl ⟨rfl, h18, u⟩⟩
  obtain ⟨-, a18, a2n, q18, A18⟩ := k18.resolve_left (fun u => y u.1)
  clear k18
  rw [h18.1.2.1.2.1]
  refine ⟨h18.1.2.1.1, h18.1.1.2.1.1, (s_tx_accept (x := 24) (i32s (by omega) (by omega)) (by omega) h18 a18 a2n).mono (fun x26 M25 k => ?_)⟩
  obtain ⟨i26, o25, -, h25, x25, k25, r25, b25⟩ := k
  refine ⟨i26, o25, fun y => ?_, fun y => ?_⟩
  · have e := (k25.resolve_left (fun u => by rw [y] at u; exact absurd u.1 (by decide))).2
    rw [e]
    exact ⟨x9.1.trans x18.1, Or.inl ⟨rfl, h18, _, a18, a2n⟩⟩
  obtain ⟨-, -, a25, a3n⟩ := k25.resolve_right (fun u => y u.1)
  clear k25
  have c25 : mI M25 (q + 1) 6 = v3 := by rw [r25 6 (by decide), n18.1 6 (by decide) (by decide) (by decide), g9, if_pos ⟨rfl, rfl⟩]
  have p25 : mI M25 p 2 = L := by rw [b25 p np1, n18.2.2 p np0 np1, g9, if_neg (fun u => np1 u.1)]; exact hs
  have d25 : mI M25 (q + 1) 5 = ((0 : Nat) : Int) := by rw [r25 5 (by decide), n18.1 5 (by decide) (by decide) (by decide), g9, if_neg (fun u => absurd u.2 (by decide))]; exact hd
  have nk : NK M25 (q + 1) A n (vco l1 V) F (nco l1 ns) c := by
    unfold vco nco
    by_cases y4 : l1 = 4
    · rw [if_pos y4, if_pos y4]
      rw [if_pos y4] at e3
      exact h25.2.1.2.2.1.nkc (by rw [c25, e3]; decide)
    · rw [if_neg y4, if_neg y4]
      exact h25.2.1.2.2.1.nk
  exact ⟨h25.1.2.1.1, s_nd_tail ((x9.1.trans x18.1).trans x25.1) h25 a25 a3n p25 (by omega) d25 nk ⟨by rw [b25 q q01]; exact q18, by omega, by rw [(h18.1.words x25.1).1]; exact A18⟩ (fun y => x25.2.2.1 (y18 (y13 y)))⟩
theorem PG.longer (h : PG M p O P V F ns sf ef L cnt Bn) (hL : L ≤ L') : PG M p O P V F ns sf ef L' cnt Bn := by
  obtain ⟨g1, g2, g3, g4, g5, g6, g7⟩ := h
  have up : ∀ {s h : Nat}, PC M O P V F ns ef L s h → PC M O P V F ns ef L' s h := fun hc => hc.wide (Nat.le_refl _) (Nat.le_refl _) hL (fun _ _ => ⟨rfl, rfl⟩)
  refine ⟨g1.wide (Nat.le_refl _) hL, g2.imp (fun y => y) (fun ⟨s, y1, y2⟩ => ⟨s, y1, up y2⟩), fun j hj => ?_, g4, g5, g6, fun b hb => ?_⟩
  · obtain ⟨s, y1, y2⟩ := g3 j hj
    exact ⟨s, y1, up y2⟩
  · obtain ⟨s1, s2, y1, y2, y3, y4⟩ := g7 b hb
    exact ⟨s1, s2, y1, up y2, y3, up y4⟩
/-- a target stands -/
def tgQ (M0 : mM) (z q w T A B D N C n p O P K Ab Be Cm V F : Nat) (ns : Nat → Int) (sf ef : Nat → Nat) (c cnt L : Nat) (x : Int) (M' : mM) : Prop := FI (txS q p O P) M0 M' ∧ ((x = 0 ∧ ∃ L', nstQ z q w T A B D N C n p O P K Ab Be Cm V F ns sf ef c cnt L' M') ∨ (x = 1 ∧ ∃ L' a' : Nat, TX M' z q w T A B D N C n p O P K Ab Be Cm V F ns sf ef c cnt L' ∧ mI M' p 2 = (L' : Int) ∧ mI M' (q + 1) 2 = (a' : Int) ∧ a' ≤ n ∧ L' ≤ a' ∧ mI M' (q + 1) 5 = 0))
theorem s_rt8 (f0 : FI (txS q p O P) M0 M) (h : TX M z q w T A B D N C n p O P K Ab Be Cm V F ns sf ef c cnt L) (ha : mI M (q + 1) 2 = a) (han : a < n) (hs : mI M p 2 = L) (hsa : L ≤ a) (hd : mI M (q + 1) 5 = 0) (e8 : M1 = mUI M (q + 1) 2 ((a : Int) + 1)) (e11 : M2 = mUI M1 (q + 1) 6 0) : mOk M2 ∧ mK M1 (mR M1 q 0) = 4 ∧ mR M1 q 0 = q + 1 ∧ Ci G y_TR_readItemRule (d + 5) [vr q, vi 0, vi 2] M2 (fun x14 M13 => i32 x14 ∧ mOk M13 ∧ (((x14 = 0) → (tgQ M0 z q w T A B D N C n p O P K Ab Be Cm V F ns sf ef c cnt L 0 M13)) ∧ (¬ (x14 = 0) → (mK M13 q = 3 ∧ mK M13 (mR M13 q 5) = 30 ∧ ((0 : Int) ≤ 0 ∧ 0 < (mN M13 (mR M13 q 5) : Int)) ∧ mK M13 (mR M13 q 2) = 6 ∧ ∀ M22, M22 = mUI M13 (mR M13 q 2) 11 (mI M13 (mR M13 q 5) 0) → mK M22 (mR M22 q 0) = 4 ∧ Ci G y_RR_accept (d + 5) [vr (mR M22 q 0), vi 35] M22 (fun x26 M25 => i32 x26 ∧ mOk M25 ∧ ((x26 = 0 ∨ x26 = 1) ∧ tgQ M0 z q w T A B D N C n p O P K Ab Be Cm V F ns sf ef c cnt L x26 M25)))))) := by
  have ap := h.1.apart
  have qp := h.1.2.2.2.2.2.1.2.1
  have ok := h.1.1.1
  have hN : n ≤ 16384 := by have := h.1.1.2.2.2.1.2.2.1; have := h.1.1.2.2.2.1.1.2.2.2.2.2.2.1; omega
  obtain ⟨h1, x1, g1⟩ := tx_ui h ⟨by omega, by omega⟩ e8 (Or.inr (Or.inr (Or.inr (Or.inl ⟨rfl, Or.inl rfl⟩))))
  obtain ⟨h2, x2, g2⟩ := tx_ui h1 (i32s (by omega) (by omega)) e11 (Or.inr (Or.inr (Or.inr (Or.inl ⟨rfl, Or.inr (Or.inr rfl)⟩))))
  have gb : ∀ b i, b ≠ q + 1 → mI M2 b i = mI M b i := fun b i hb => by rw [g2, if_neg (by omega), g1, if_neg (by omega)]
  have a2 : mI M2 (q + 1) 2 = ((a + 1 : Nat) : Int) := by rw [g2, if_neg (by omega), g1, if_pos ⟨rfl, rfl⟩]; omega
  have d2 : mI M2 (q + 1) 5 = ((0 : Nat) : Int) := by rw [g2, if_neg (by omega), g1, if_neg (by omega)]; exact hd
  refine ⟨h2.1.1.1, by rw [h1.1.2.1.2.1]; exact h1.1.1.2.1.1, h1.1.2.1.2.1, (s_TR_readItemRule (k := 0) (s := L) (d0 := 0) (by omega) (i32s (by omega) (by omega)) h2 a2 (by omega) (by rw [gb p 2 (by omega)]; exact hs) (Nat.le_refl _) (by omega) d2 (by omega) h2.2.1.2.2.1.nk).mono (fun x14 M13 k => ?_)⟩
  obtain ⟨h13, x13, ⟨c13, q13, t13⟩, k13⟩ := k
  have i14 : i32 x14 := by rcases k13 with u | u <;> rw [u.1] <;> exact i32s (by omega) (by omega)
  refine ⟨i14, h13.1.1.1, fun y => ?_, fun y => ?_⟩
  · obtain ⟨-, u⟩ := k13.resolve_right (fun u => by have := u.1; omega)
    exact ⟨((f0.trans x1.1).trans x2.1).trans x13.1, Or.inl ⟨rfl, L, h13, u⟩⟩
  obtain ⟨-, e, H, a', cd, p13, a13, aa, an, ea, d13⟩ := k13.resolve_left (fun u => y u.1)
  clear k13
  obtain ⟨⟨np0, np1, np21, -⟩, ⟨nO0, nO1, -, -, nOp⟩, nP0, nP1, -, -, nPp⟩ := h13.1.ne
  have pn : ∀ i, 3 ≤ i → p + i ≠ p := fun i hi => by omega
  have qn : ∀ i, i ≤ 10 → q + i ≠ p := fun i hi => by omega
  obtain ⟨t0, t1, t2, t3, t4, t5⟩ := h13.1.2.1
  obtain ⟨s1, s2, s3, s4⟩ := h13.1.2.2.1
  rw [t3, t4, s3, t13, if_pos rfl]
  refine ⟨t0, s1, ⟨by omega, by omega⟩, h13.1.1.2.2.2.2.1.1, fun M22 e22 => ?_⟩
  have f22 : FI (txS q p O P) M13 M22 := by rw [e22]; exact FI.ui (Or.inr (Or.inr (Or.inr (Or.inl rfl))))
  have g22 : ∀ b i, mI M22 b i = if b = p ∧ i = 11 then (L : Int) else mI M13 b i := fun b i => mI_ui b i e22
  have gg : ∀ b, b ≠ p → mI M22 b = mI M13 b := fun b hb => by
    funext i
    rw [g22, if_neg (fun u => hb u.1)]
  have o22 : mOk M22 := by rw [e22]; exact mOk_UI h13.1.1.1 ⟨by omega, by omega⟩
  have hse : L ≤ e := cd.2.2.2.2.2
  have h22 : TX M22 z q w T A B D N C n p O P K Ab Be Cm V F ns sf ef c cnt (e + 1) := by
    refine ⟨h13.1.fi o22 f22, ?_, ?_⟩
    · obtain ⟨u1, u2, u3, u4⟩ := h13.2.1
      refine ⟨by rw [g22, if_neg (by omega)]; exact u1, by rw [g22, if_neg (by omega)]; exact u2, ?_, fun j => by rw [gg _ (by omega)]; exact u4 j⟩
      unfold TN at u3 ⊢
      rw [(h13.1.words f22).1, gg _ (by omega), gg _ (by omega), gg _ (by omega), gg _ (by omega), gg _ (by omega)]
      exact u3
    · obtain ⟨u1, u2⟩ := h13.2.2
      refine ⟨by rw [g22, if_neg (by omega)]; exact u1, fun y0 => ?_⟩
      rw [gg _ (qn 1 (by decide))] at y0
      obtain ⟨u, eu, gu⟩ := u2 y0
      obtain ⟨v1, v2, v3, v4, v5, v6, v7⟩ := gu.longer (L' := e + 1) (Nat.le_succ_of_le hse)
      have cg : ∀ {s h : Nat}, PC M13 O P V F ns ef (e + 1) s h → PC M22 O P V F ns ef (e + 1) s h := fun hc => hc.cg (fun i _ => by rw [gg O nOp]) (fun i _ => by rw [gg P nPp])
      refine ⟨u, by rw [gg _ (pn _ (by decide))]; exact eu, v1.cg (fun i _ => by rw [gg O nOp]) (fun i _ => by rw [gg P nPp]) (fun i _ => by rw [gg _ (pn _ (by decide))]) (fun i _ => by rw [gg _ (pn _ (by decide))]), Or.inr ⟨L, by rw [g22, if_pos ⟨rfl, rfl⟩], cg ⟨e, H, F, cd, Nat.lt_succ_self _, Nat.le_refl _, fun y hy h7 => ((gu.1 y hy).2 h7).2.2.1⟩⟩, fun j hj => ?_, by rw [gg _ (pn _ (by decide))]; exact v4, by rw [gg _ (pn _ (by decide))]; exact v5, by rw [gg _ (pn _ (by decide))]; exact v6, fun b hb => ?_⟩
      · obtain ⟨s, y1, y2⟩ := v3 j hj
        exact ⟨s, by rw [gg _ (pn _ (by decide))]; exact y1, cg y2⟩
      · obtain ⟨s1, s2, y1, y2, y3, y4⟩ := v7 b hb
        exact ⟨s1, s2, by rw [gg _ (pn _ (by decide))]; exact y1, cg y2, by rw [gg _ (pn _ (by decide))]; exact y3, cg y4⟩
  have a22 : mI M22 (q + 1) 2 = (a' : Int) := by rw [gg _ (by omega)]; exact a13
  rw [h22.1.2.1.2.1]
  refine ⟨h22.1.1.2.1.1, (s_tx_accept (i32s (by omega) (by omega)) (by omega) h22 a22 an).mono (fun x26 M25 k => ?_)⟩
  obtain ⟨i26, o25, hx26, h25, x25, k25, r25, b25⟩ := k
  refine ⟨i26, o25, hx26, ?_⟩
  rcases k25 with ⟨e1, -, a25, an25⟩ | ⟨e1, e2⟩
  · refine ⟨((((f0.trans x1.1).trans x2.1).trans x13.1).trans f22).trans x25.1, Or.inr ⟨e1, e + 1, a' + 1, h25, by rw [b25 p (by omega), g22, if_neg (by omega)]; exact p13, a25, by omega, by omega, by rw [r25 5 (by decide), gg _ (by omega), d13, d2]; rfl⟩⟩
  · rw [e2]
    exact ⟨(((f0.trans x1.1).trans x2.1).trans x13.1).trans f22, Or.inl ⟨e1, e + 1, h22, a', a22, an⟩⟩
theorem s_TR_readTarget (h : TX M z q w T A B D N C n p O P K Ab Be Cm V F ns sf ef c cnt L) (ha : mI M (q + 1) 2 = a) (han : a < n) (hs : mI M p 2 = L) (hsa : L ≤ a) (hd : mI M (q + 1) 5 = 0) : Ci G y_TR_readTarget (d + 6) [vr q] M (tgQ M z q w T A B D N C n p O P K Ab Be Cm V F ns sf ef c cnt L) := by
  have ap := h.1.apart
  have ok := h.1.1.1
  have hN : n ≤ 16384 := by have := h.1.1.2.2.2.1.2.2.1; have := h.1.1.2.2.2.1.1.2.2.2.2.2.2.1; omega
  obtain ⟨t0, t1, t2, t3, t4, t5⟩ := h.1.2.1
  refine k_TR_readTarget ok ?_
  rw [t1, t3, ha]
  refine ⟨t0, h.1.1.2.2.2.2.1.1, fun _ => ⟨h.1.1.2.1.1, ⟨by omega, by omega⟩, fun M8 e8 => ?_⟩, fun _ => ⟨h.1.1.2.1.1, (s_RR_here h.1.1 ha (by omega)).mono (fun x31 M30 k => ?_)⟩⟩
  · have k4 := (s_rt8 (G := G) (d := d) (M0 := M) FI.refl h ha han hs hsa hd e8 rfl).2.1
    have kr := (s_rt8 (G := G) (d := d) (M0 := M) FI.refl h ha han hs hsa hd e8 rfl).2.2.1
    refine ⟨k4, fun M11 e11 => ?_⟩
    rw [kr] at e11
    exact (s_rt8 FI.refl h ha han hs hsa hd e8 e11).2.2.2
  · obtain ⟨e30, -, x0, x1⟩ := k
    subst e30
    refine ⟨i32s (by omega) (by omega), ok, h.1.1.2.1.1, (s_tx_note (i32s (by omega) (by omega)) (by omega) (i32s (by omega) (by omega)) h).mono (fun M34 kk => ?_)⟩
    obtain ⟨o34, h34, x34, u3, u4, u5⟩ := kk
    have a34 : mI M34 (q + 1) 2 = a := by rw [u4 2 (by decide) (by decide)]; exact ha
    have p34 : mI M34 p 2 = L := by rw [u5 p (by have := h.1.2.2.2.2.2.1.2.1; omega)]; exact hs
    have d34 : mI M34 (q + 1) 5 = 0 := by rw [u4 5 (by decide) (by decide)]; exact hd
    rw [h34.1.2.1.2.1, a34]
    refine ⟨o34, h34.1.2.1.1, h34.1.1.2.1.1, ⟨by omega, by omega⟩, fun M8 e8 => ?_⟩
    have k4 := (s_rt8 (G := G) (d := d) x34.1 h34 a34 han p34 hsa d34 e8 rfl).2.1
    have kr := (s_rt8 (G := G) (d := d) x34.1 h34 a34 han p34 hsa d34 e8 rfl).2.2.1
    refine ⟨k4, fun M11 e11 => ?_⟩
    rw [kr] at e11
    exact (s_rt8 x34.1 h34 a34 han p34 hsa d34 e8 e11).2.2.2
end TRD
end
section
/-! The class's reader of texts: var. -/
section TRE
variable {G : mG} {d z q w T A B D N C n p O P K Ab Be Cm V F c s s' L L' cnt Bn a d0 V1 F1 nw k : Nat} {M0 M M' M1 M2 : mM} {ns ns' ns1 : Nat → Int} {sf ef sf' ef' : Nat → Nat} {H : Nat → Nat} {S R : Nat → Prop}
/-- the item's rule k, below s' -/
def rvR (M : mM) (q O P F : Nat) (ns : Nat → Int) (L s' k : Nat) : Prop := ∃ s e H, mI M (q + 21) k = ((s : Nat) : Int) ∧ Cod M O P 0 F (nsc ns) s e H 1 ∧ L ≤ s ∧ e < s'
theorem rvR.cg {s1 s2 : Nat} (h : rvR M q O P F ns L s1 k) (h1 : mI M' (q + 21) k = mI M (q + 21) k) (hO : ∀ i, i < s1 → mI M' O i = mI M O i ∧ mI M' P i = mI M P i) (hs : s1 ≤ s2) : rvR M' q O P F ns L s2 k := by
  obtain ⟨s, e, H, a1, a2, a3, a4⟩ := h
  exact ⟨s, e, H, by rw [h1]; exact a1, a2.cg (fun i hi => (hO i (by omega)).1) (fun i hi => (hO i (by omega)).2), a3, by omega⟩
/-- what the item has so far -/
def vrS (M : mM) (q A n p L s a nw V : Nat) : Prop := mI M p 2 = ((s : Nat) : Int) ∧ L ≤ s ∧ s ≤ a ∧ mI M (q + 1) 2 = ((a : Nat) : Int) ∧ a ≤ n ∧ mI M (q + 1) 5 = 0 ∧ mI M q 3 = ((nw : Nat) : Int) ∧ nw < n ∧ mI M A nw = 2 ∧ mI M q 4 = ((L : Nat) : Int) ∧ (mI M q 8 = 0 ∨ mI M q 8 = 1) ∧ (12 ≤ V → mI M (q + 1) 3 ≠ 0)
def vaQ (M0 : mM) (z q w T A B D N C n p O P K Ab Be Cm V F : Nat) (ns : Nat → Int) (sf ef : Nat → Nat) (c cnt L : Nat) (x : Int) (M' : mM) : Prop := FI (txS q p O P) M0 M' ∧ ((x = 0 ∧ nstQ z q w T A B D N C n p O P K Ab Be Cm V F ns sf ef c cnt L M') ∨ (x = 1 ∧ TX M' z q w T A B D N C n p O P K Ab Be Cm V F ns sf ef c cnt L ∧ ∃ s a nw : Nat, vrS M' q A n p L s a nw V ∧ (mI M' q 8 = 0 → rvR M' q O P F ns L s 0 ∧ rvR M' q O P F ns L s 1) ∧ (mI M' q 7 ≠ 0 → rvR M' q O P F ns L s 2)))
/-- the last word of a var -/
theorem s_rv35 (f0 : FI (txS q p O P) M0 M) (h : TX M z q w T A B D N C n p O P K Ab Be Cm V F ns sf ef c cnt L) (hs : mI M p 2 = ((s : Nat) : Int)) (hLs : L ≤ s) (hsa : s ≤ a + 1) (ha : mI M (q + 1) 2 = ((a : Nat) : Int)) (han : a ≤ n) (hd : mI M (q + 1) 5 = 0) (hn : mI M q 3 = ((nw : Nat) : Int) ∧ nw < n ∧ mI M A nw = 2 ∧ mI M q 4 = ((L : Nat) : Int) ∧ (mI M q 8 = 0 ∨ mI M q 8 = 1) ∧ (12 ≤ V → mI M (q + 1) 3 ≠ 0)) (h8 : mI M q 8 = 0 → rvR M q O P F ns L s 0 ∧ rvR M q O P F ns L s 1) (h7 : mI M q 7 ≠ 0 → rvR M q O P F ns L s 2) : Ci G y_RR_accept d [vr (q + 1), vi 35] M (fun x69 M68 => i32 x69 ∧ mOk M68 ∧ ((x69 = 0 ∨ x69 = 1) ∧ vaQ M0 z q w T A B D N C n p O P K Ab Be Cm V F ns sf ef c cnt L x69 M68)) := by
  have ap := h.1.apart
  have qp := h.1.2.2.2.2.2.1.2.1
  refine (s_tx_accept (i32s (by omega) (by omega)) (by omega) h ha han).mono (fun x M' k => ?_)
  obtain ⟨i1, o1, hx, h1, x1, k1, r1, b1⟩ := k
  refine ⟨i1, o1, hx, ?_⟩
  rcases k1 with ⟨e1, -, a1, an1⟩ | ⟨e1, e2⟩
  · obtain ⟨n1, n2, n3, n4, n5, n6⟩ := hn
    refine ⟨f0.trans x1.1, Or.inr ⟨e1, h1, s, a + 1, nw, ⟨by rw [b1 p (by omega)]; exact hs, hLs, by omega, a1, by omega, by rw [r1 5 (by decide)]; exact hd, by rw [b1 q (by omega)]; exact n1, n2, by rw [(h.1.words x1.1).1]; exact n3, by rw [b1 q (by omega)]; exact n4, by rw [b1 q (by omega)]; exact n5, fun y => by rw [r1 3 (by decide)]; exact n6 y⟩, fun y => ?_, fun y => ?_⟩⟩
    · rw [b1 q (by omega)] at y
      obtain ⟨u1, u2⟩ := h8 y
      exact ⟨u1.cg (by rw [b1 _ (by omega)]) (fun i _ => ⟨by rw [b1 O (by omega)], by rw [b1 P (by omega)]⟩) (Nat.le_refl _), u2.cg (by rw [b1 _ (by omega)]) (fun i _ => ⟨by rw [b1 O (by omega)], by rw [b1 P (by omega)]⟩) (Nat.le_refl _)⟩
    · rw [b1 q (by omega)] at y
      exact (h7 y).cg (by rw [b1 _ (by omega)]) (fun i _ => ⟨by rw [b1 O (by omega)], by rw [b1 P (by omega)]⟩) (Nat.le_refl _)
  · rw [e2]
    exact ⟨f0, Or.inl ⟨e1, h, a, ha, han⟩⟩
/-- the tail of a var: its init -/
theorem s_rv10 (f0 : FI (txS q p O P) M0 M) (h : TX M z q w T A B D N C n p O P K Ab Be Cm V F ns sf ef c cnt L) (hs : mI M p 2 = ((s : Nat) : Int)) (hLs : L ≤ s) (hsa : s ≤ a + 1) (ha : mI M (q + 1) 2 = ((a : Nat) : Int)) (han : a ≤ n) (hd : mI M (q + 1) 5 = 0) (hr6 : mI M (q + 1) 6 ≠ 0) (hn : mI M q 3 = ((nw : Nat) : Int) ∧ nw < n ∧ mI M A nw = 2 ∧ mI M q 4 = ((L : Nat) : Int) ∧ (mI M q 8 = 0 ∨ mI M q 8 = 1) ∧ (12 ≤ V → mI M (q + 1) 3 ≠ 0)) (h8 : mI M q 8 = 0 → rvR M q O P F ns L s 0 ∧ rvR M q O P F ns L s 1) : Ci G y_RR_accept (d + 5) [vr (q + 1), vi 10] M (fun x59 M58 => i32 x59 ∧ mOk M58 ∧ (mK M58 q = 3 ∧ (x59 = 0 ∨ x59 = 1) ∧ ∀ M63, M63 = mUI M58 q 7 x59 → ((mI M63 q 7 = 0) → (mK M63 (mR M63 q 0) = 4 ∧ Ci G y_RR_accept (d + 5) [vr (mR M63 q 0), vi 35] M63 (fun x69 M68 => i32 x69 ∧ mOk M68 ∧ ((x69 = 0 ∨ x69 = 1) ∧ vaQ M0 z q w T A B D N C n p O P K Ab Be Cm V F ns sf ef c cnt L x69 M68)))) ∧ (¬ (mI M63 q 7 = 0) → (∀ v73 : Int, v73 = (if (mI M63 q 8 = 0) then 1 else 2) → Ci G y_TR_readItemRule (d + 5) [vr q, vi 2, vi v73] M63 (fun x78 M77 => i32 x78 ∧ mOk M77 ∧ (((x78 = 0) → (vaQ M0 z q w T A B D N C n p O P K Ab Be Cm V F ns sf ef c cnt L 0 M77)) ∧ (¬ (x78 = 0) → (mK M77 q = 3 ∧ mK M77 (mR M77 q 0) = 4 ∧ Ci G y_RR_accept (d + 5) [vr (mR M77 q 0), vi 35] M77 (fun x85 M84 => i32 x85 ∧ mOk M84 ∧ ((x85 = 0 ∨ x85 = 1) ∧ vaQ M0 z q w T A B D N C n p O P K Ab Be Cm V F ns sf ef c cnt L x85 M84)))))))))) := by
  have ap := h.1.apart
  have qp := h.1.2.2.2.2.2.1.2.1
  obtain ⟨n1, n2, n3, n4, n5, n6⟩ := hn
  refine (s_tx_accept (i32s (by omega) (by omega)) (by omega) h ha han).mono (fun x59 M58 k => ?_)
  obtain ⟨i1, o1, hx, h1, x1, k1, r1, b1⟩ := k
  refine ⟨i1, o1, h1.1.2.1.1, hx, fun M63 e63 => ?_⟩
  obtain ⟨h63, x63, g63⟩ := tx_ui h1 i1 e63 (Or.inl rfl)
  have gg : ∀ b, b ≠ q → mI M63 b = mI M58 b := fun b hb => by
    funext i
    rw [g63, if_neg (by omega)]
  have bb : ∀ b, b ≠ q → b ≠ q + 1 → mI M63 b = mI M b := fun b h0 h1 => by rw [gg b h0, b1 b h1]
  have qq : ∀ i, i ≠ 7 → mI M63 q i = mI M q i := fun i hi => by rw [g63, if_neg (fun u => hi u.2), b1 q (by omega)]
  have rr : ∀ i, i ≠ 2 → mI M63 (q + 1) i = mI M (q + 1) i := fun i hi => by rw [gg _ (by omega), r1 i hi]
  have A63 : mI M63 A nw = 2 := by rw [(h1.1.words x63.1).1, (h.1.words x1.1).1]; exact n3
  have hn63 : mI M63 q 3 = ((nw : Nat) : Int) ∧ nw < n ∧ mI M63 A nw = 2 ∧ mI M63 q 4 = ((L : Nat) : Int) ∧ (mI M63 q 8 = 0 ∨ mI M63 q 8 = 1) ∧ (12 ≤ V → mI M63 (q + 1) 3 ≠ 0) := ⟨by rw [qq 3 (by decide)]; exact n1, n2, A63, by rw [qq 4 (by decide)]; exact n4, by rw [qq 8 (by decide)]; exact n5, fun y => by rw [rr 3 (by decide)]; exact n6 y⟩
  have v63 : mI M63 q 8 = 0 → rvR M63 q O P F ns L s 0 ∧ rvR M63 q O P F ns L s 1 := fun y => by
    rw [qq 8 (by decide)] at y
    obtain ⟨u1, u2⟩ := h8 y
    exact ⟨u1.cg (by rw [bb _ (by omega) (by omega)]) (fun i _ => ⟨by rw [bb O (by omega) (by omega)], by rw [bb P (by omega) (by omega)]⟩) (Nat.le_refl _), u2.cg (by rw [bb _ (by omega) (by omega)]) (fun i _ => ⟨by rw [bb O (by omega) (by omega)], by rw [bb P (by omega) (by omega)]⟩) (Nat.le_refl _)⟩
  have p63 : mI M63 p 2 = ((s : Nat) : Int) := by rw [bb p (by omega) (by omega)]; exact hs
  have d63 : mI M63 (q + 1) 5 = 0 := by rw [rr 5 (by decide)]; exact hd
  rw [h63.1.2.1.2.1]
  refine ⟨fun y => ⟨h63.1.1.2.1.1, ?_⟩, fun y v73 e73 => ?_⟩
  · have e0 : x59 = 0 := by
      rw [g63, if_pos ⟨rfl, rfl⟩] at y
      exact y
    have e2 := (k1.resolve_left (fun u => by have := u.1; omega)).2
    have a63 : mI M63 (q + 1) 2 = ((a : Nat) : Int) := by rw [gg _ (by omega), e2]; exact ha
    exact s_rv35 ((f0.trans x1.1).trans x63.1) h63 p63 hLs hsa a63 han d63 hn63 v63 (fun u => absurd y u)
  · have e0 : x59 ≠ 0 := fun u => y (by rw [g63, if_pos ⟨rfl, rfl⟩]; exact u)
    obtain ⟨-, -, a58, an58⟩ := k1.resolve_right (fun u => e0 u.1)
    have a63 : mI M63 (q + 1) 2 = ((a + 1 : Nat) : Int) := by rw [gg _ (by omega)]; exact a58
    have i73 : i32 v73 := by rw [e73]; split <;> exact i32s (by omega) (by omega)
    have c63 : mI M63 (q + 1) 6 ≠ 0 := by rw [rr 6 (by decide)]; exact hr6
    refine (s_TR_readItemRule (k := 2) (d0 := 0) (by omega) i73 h63 a63 (by omega) p63 hLs hsa d63 (by omega) (h63.2.1.2.2.1.nkc c63)).mono (fun x78 M77 k => ?_)
    obtain ⟨h77, x77, ⟨c77, q77, t77⟩, k77⟩ := k
    have i78 : i32 x78 := by rcases k77 with u | u <;> rw [u.1] <;> exact i32s (by omega) (by omega)
    refine ⟨i78, h77.1.1.1, fun y => ?_, fun y => ?_⟩
    · obtain ⟨-, u⟩ := k77.resolve_right (fun u => by have := u.1; omega)
      exact ⟨((f0.trans x1.1).trans x63.1).trans x77.1, Or.inl ⟨rfl, h77, u⟩⟩
    obtain ⟨-, e, H, a', cd, p77, a77, aa, an, ea, d77⟩ := k77.resolve_left (fun u => y u.1)
    have se : s ≤ e := cd.2.2.2.2.2
    have fo : ∀ i, i < s → mI M77 O i = mI M63 O i ∧ mI M77 P i = mI M63 P i := x77.2.2.2.2.2.2
    rw [h77.1.2.1.2.1]
    refine ⟨h77.1.2.1.1, h77.1.1.2.1.1, s_rv35 (s := e + 1) (((f0.trans x1.1).trans x63.1).trans x77.1) h77 p77 (by omega) (by omega) a77 an (by rw [d77]; exact d63) ⟨by rw [q77]; exact hn63.1, n2, by rw [(h63.1.words x77.1).1]; exact A63, by rw [q77]; exact hn63.2.2.2.1, by rw [q77]; exact hn63.2.2.2.2.1, fun u => x77.2.2.1 (hn63.2.2.2.2.2 u)⟩ (fun u => ?_) (fun _ => ⟨s, e, H, by rw [t77, if_pos rfl], cd, hLs, by omega⟩)⟩
    rw [q77] at u
    obtain ⟨u1, u2⟩ := v63 u
    exact ⟨u1.cg (by rw [t77, if_neg (by decide)]) fo (by omega), u2.cg (by rw [t77, if_neg (by decide)]) fo (by omega)⟩
end TRE
end
