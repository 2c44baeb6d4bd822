section
/-! The class's reader of texts: names, and the rules of items. -/
section TRC
variable {G : mG} {d z q w T A B D N C n p O P K Ab Be Cm V F c s L L' cnt Bn a d0 V1 F1 : Nat} {M0 M M' M1 M2 : mM} {ns ns' ns1 : Nat → Int} {sf ef sf' ef' : Nat → Nat} {H : Nat → Nat} {S R : Nat → Prop}
def nmF (M0 : mM) (q : Nat) (M : mM) : Prop := (∀ i, i ≠ 2 → i ≠ 3 → i ≠ 4 → mI M (q + 1) i = mI M0 (q + 1) i) ∧ (∀ i, i ≠ 3 → mI M q i = mI M0 q i) ∧ (∀ b, b ≠ q → b ≠ q + 1 → mI M b = mI M0 b)
theorem nmF.refl : nmF M q M := ⟨fun _ _ _ _ => rfl, fun _ _ => rfl, fun _ _ _ => rfl⟩
theorem nmF.trans (f : nmF M0 q M1) (g : nmF M1 q M2) : nmF M0 q M2 := ⟨fun i i2 i3 i4 => by rw [g.1 i i2 i3 i4, f.1 i i2 i3 i4], fun i i3 => by rw [g.2.1 i i3, f.2.1 i i3], fun b b1 b2 => by rw [g.2.2 b b1 b2, f.2.2 b b1 b2]⟩
/-- what readName comes to -/
def rnmQ (M0 : mM) (z q w T A B D N C n p O P K Ab Be Cm V F : Nat) (ns : Nat → Int) (sf ef : Nat → Nat) (c cnt L a : Nat) (l1 : Int) (x : Int) (M' : mM) : Prop := TX M' z q w T A B D N C n p O P K Ab Be Cm V F ns sf ef c cnt L ∧ txF M0 q p O P L M' ∧ nmF M0 q M' ∧ (l1 ≠ 0 → mI M' (q + 1) 3 ≠ 0) ∧ ((x = 0 ∧ ∃ a' : Nat, mI M' (q + 1) 2 = a' ∧ a' ≤ n) ∨ (x = 1 ∧ mI M' (q + 1) 2 = ((a + 2 : Nat) : Int) ∧ a + 2 ≤ n ∧ mI M' q 3 = ((a + 1 : Nat) : Int) ∧ mI M' A (a + 1) = 2))
theorem s_rn19 {l1 : Int} (h : TX M z q w T A B D N C n p O P K Ab Be Cm V F ns sf ef c cnt L) (f0 : txF M0 q p O P L M) (g0 : nmF M0 q M) (hY : l1 ≠ 0 → mI M (q + 1) 3 ≠ 0) (ha : mI M (q + 1) 2 = a) (han : a < n) : h_TR_readName_19 G (d + 1) q M (rnmQ M0 z q w T A B D N C n p O P K Ab Be Cm V F ns sf ef c cnt L a l1) := by
  have ap := h.1.apart
  have ok := h.1.1.1
  obtain ⟨t0, t1, t2, t3, t4, t5⟩ := h.1.2.1
  have k4 := h.1.1.2.1.1
  have hN : n ≤ 16384 := by have := h.1.1.2.2.2.1.2.2.1; have := h.1.1.2.2.2.1.1.2.2.2.2.2.2.1; omega
  refine k_TR_readName_19 ok ?_
  rw [t1, ha]
  refine ⟨t0, k4, ⟨by omega, by omega⟩, fun M15 e15 => ?_⟩
  obtain ⟨h15, x15, g15⟩ := tx_ui h ⟨by omega, by omega⟩ e15 (Or.inr (Or.inr (Or.inr (Or.inl ⟨rfl, Or.inl rfl⟩))))
  have a15 : mI M15 (q + 1) 2 = ((a + 1 : Nat) : Int) := by rw [g15, if_pos ⟨rfl, rfl⟩]; omega
  rw [h15.1.2.1.2.1, a15]
  refine ⟨h15.1.1.2.1.1, fun M18 e18 => ?_⟩
  obtain ⟨h18, x18, g18⟩ := tx_ui h15 ⟨by omega, by omega⟩ e18 (Or.inl rfl)
  have a18 : mI M18 (q + 1) 2 = ((a + 1 : Nat) : Int) := by rw [g18, if_neg (by omega)]; exact a15
  have n18 : nmF M0 q M18 := g0.trans ⟨fun i i2 i3 i4 => by rw [g18, if_neg (by omega), g15, if_neg (by omega)], fun i i3 => by rw [g18, if_neg (by omega), g15, if_neg (by omega)], fun b b1 b2 => by
    funext i
    rw [g18, if_neg (by omega), g15, if_neg (by omega)]⟩
  have q18 : mI M18 q 3 = ((a + 1 : Nat) : Int) := by rw [g18, if_pos ⟨rfl, rfl⟩]
  have f18 := (f0.trans x15).trans x18
  have Y18 : l1 ≠ 0 → mI M18 (q + 1) 3 ≠ 0 := fun y => by rw [g18, if_neg (by omega), g15, if_neg (by omega)]; exact hY y
  rw [h18.1.2.1.2.1]
  refine ⟨h18.1.1.2.1.1, (s_tx_accept (i32s (by omega) (by omega)) (by omega) h18 a18 (by omega)).mono (fun v M21 k => ?_)⟩
  obtain ⟨v32, o21, vv, h21, x21, k1, k2, k3⟩ := k
  have n21 : nmF M0 q M21 := n18.trans ⟨fun i i2 _ _ => k2 i i2, fun i _ => by rw [k3 q (by omega)], fun b _ b2 => k3 b b2⟩
  have f21 := f18.trans x21
  have Y21 : l1 ≠ 0 → mI M21 (q + 1) 3 ≠ 0 := fun y => by rw [k2 3 (by decide)]; exact Y18 y
  refine ⟨v32, o21, fun y => ?_, fun y => ?_⟩
  · have e := (k1.resolve_left (fun u => by have := u.1; omega)).2
    rw [e]
    exact ⟨h18, f18, n18, Y18, Or.inl ⟨rfl, a + 1, a18, by omega⟩⟩
  · obtain ⟨e1, e2, e3, e4⟩ := k1.resolve_right (fun u => y u.1)
    have A21 : mI M21 A (a + 1) = 2 := by rw [(h18.1.words x21.1).1]; exact e2
    have q21 : mI M21 q 3 = ((a + 1 : Nat) : Int) := by rw [k3 q (by omega)]; exact q18
    rw [h21.1.2.1.2.1, q21]
    refine ⟨h21.1.2.1.1, h21.1.1.2.1.1, (s_RR_find h21.1.1 h21.2.1.2.2.1.nk e4 A21).mono (fun x29 M28 kk => ?_)⟩
    obtain ⟨e28, hx⟩ := kk
    subst e28
    have c72 := h21.2.1.2.2.1.2.1
    have i29 : i32 x29 := by rcases hx with u | ⟨i, u, hi⟩ <;> rw [u] <;> exact i32s (by omega) (by omega)
    obtain ⟨⟨w1, ⟨p0, p3, p4, p5⟩, -, ⟨kA, kB, kD⟩, ⟨cA, cB, cD⟩, w6, w7, w8, -⟩, -⟩ := id h21.1.1.2.2.2.1
    rw [h21.1.2.1.2.1, h21.1.1.2.2.1.1, p4, cB, q21, Int.toNat_natCast]
    have nN := h21.1.1.2.2.2.1.2.2.1
    refine ⟨i29, o21, fun _ => ⟨h21, f21, n21, Y21, Or.inr ⟨rfl, e3, by omega, q21, A21⟩⟩, fun _ => ⟨h21.1.2.1.1, h21.1.1.2.1.1, w1, kB, by omega, (s_tx_note (i32s (by omega) (by omega)) (by omega) (o21 _ _).1 h21).mono (fun M44 kk => ?_)⟩⟩
    obtain ⟨o44, h44, x44, u3, u4, u5⟩ := kk
    have n44 : nmF M0 q M44 := n21.trans ⟨fun i _ i3 i4 => u4 i i3 i4, fun i _ => by rw [u5 q (by omega)], fun b _ b2 => u5 b b2⟩
    exact ⟨o44, h44, f21.trans x44, n44, fun _ => u3, Or.inr ⟨rfl, by rw [u4 2 (by decide) (by decide)]; exact e3, by omega, by rw [u5 q (by omega)]; exact q21, by rw [(h21.1.words x44.1).1]; exact A21⟩⟩
theorem s_TR_readName {l1 : Int} (i1 : i32 l1) (h : TX M z q w T A B D N C n p O P K Ab Be Cm V F ns sf ef c cnt L) (ha : mI M (q + 1) 2 = a) (han : a < n) : Ci G y_TR_readName (d + 2) [vr q, vi l1] M (rnmQ M z q w T A B D N C n p O P K Ab Be Cm V F ns sf ef c cnt L a l1) := by
  have ok := h.1.1.1
  obtain ⟨t0, t1, t2, t3, t4, t5⟩ := h.1.2.1
  have k4 := h.1.1.2.1.1
  refine k_TR_readName ok i1 ⟨fun y => s_rn19 h txF.refl nmF.refl (fun u => absurd y u) ha han, fun y => ?_⟩
  rw [t1]
  refine ⟨t0, k4, (s_RR_here h.1.1 ha (by omega)).mono (fun x6 M5 k => ?_)⟩
  obtain ⟨e5, -, x0, x1⟩ := k
  subst e5
  refine ⟨i32s (by omega) (by omega), ok, k4, (s_tx_note (i32s (by omega) (by omega)) (by omega) (i32s (by omega) (by omega)) h).mono (fun M9 kk => ?_)⟩
  obtain ⟨o9, h9, x9, u3, u4, u5⟩ := kk
  exact ⟨o9, s_rn19 h9 x9 ⟨fun i _ i3 i4 => u4 i i3 i4, fun i _ => by rw [u5 q (by omega)], fun b _ b2 => u5 b b2⟩ (fun _ => u3) (by rw [u4 2 (by decide) (by decide)]; exact ha) han⟩
/-- a rule of an item -/
def irQ (M : mM) (z q w T A B D N C n p O P K Ab Be Cm V F : Nat) (ns : Nat → Int) (sf ef : Nat → Nat) (c cnt L s V1 F1 : Nat) (ns1 : Nat → Int) (a k : Nat) (x : Int) (M' : mM) : Prop := TX M' z q w T A B D N C n p O P K Ab Be Cm V F ns sf ef c cnt L ∧ txF M q p O P s M' ∧ (mI M' (q + 1) 6 = mI M (q + 1) 6 ∧ mI M' q = mI M q ∧ (∀ i, mI M' (q + 21) i = if i = k then (s : Int) else mI M (q + 21) i)) ∧ ((x = 0 ∧ ∃ a' : Nat, mI M' (q + 1) 2 = a' ∧ a' ≤ n) ∨ (x = 1 ∧ ∃ e H a', Cod M' O P V1 F1 ns1 s e H 1 ∧ mI M' p 2 = ((e + 1 : Nat) : Int) ∧ mI M' (q + 1) 2 = ((a' : Nat) : Int) ∧ a ≤ a' ∧ a' ≤ n ∧ e ≤ a' ∧ mI M' (q + 1) 5 = mI M (q + 1) 5))
theorem s_TR_readItemRule {k : Nat} {l2 : Int} (hk : k < 3) (i2 : i32 l2) (h : TX M z q w T A B D N C n p O P K Ab Be Cm V F ns sf ef c cnt L) (ha : mI M (q + 1) 2 = a) (han : a ≤ n) (hs : mI M p 2 = s) (hLs : L ≤ s) (hsa : s ≤ a) (hd : mI M (q + 1) 5 = d0) (hd4 : d0 ≤ 40) (nk : NK M (q + 1) A n V1 F1 ns1 c) : Ci G y_TR_readItemRule (d + 5) [vr q, vi k, vi l2] M (irQ M z q w T A B D N C n p O P K Ab Be Cm V F ns sf ef c cnt L s V1 F1 ns1 a k) := by
  have ap := h.1.apart
  have qp := h.1.2.2.2.2.2.1.2.1
  have ok := h.1.1.1
  obtain ⟨t0, t1, t2, t3, t4, t5⟩ := h.1.2.1
  obtain ⟨s1, s2, s3, s4⟩ := h.1.2.2.1
  have hN : n ≤ 16384 := by have := h.1.1.2.2.2.1.2.2.1; have := h.1.1.2.2.2.1.1.2.2.2.2.2.2.1; omega
  refine k_TR_readItemRule ok (i32s (by omega) (by omega)) i2 ?_
  rw [t3, t4, s3, Int.toNat_natCast, hs]
  refine ⟨t0, h.1.1.2.2.2.2.1.1, s1, by omega, fun M5 e5 => ?_⟩
  obtain ⟨h5, x5, g5⟩ := tx_ui h ⟨by omega, by omega⟩ e5 (Or.inr (Or.inl rfl))
  have a5 : mI M5 (q + 1) 2 = a := by rw [g5, if_neg (by omega)]; exact ha
  rw [h5.1.2.1.2.1]
  refine ⟨h5.1.1.2.1.1, (s_RR_here h5.1.1 a5 han).mono (fun x9 M8 kk => ?_)⟩
  obtain ⟨e8, -, x0, x1⟩ := kk
  subst e8
  rw [h5.1.2.1.2.2.2.2.2, h5.1.2.2.1.2.2.2]
  refine ⟨i32s (by omega) (by omega), h5.1.1.1, h5.1.2.2.1.2.1, by omega, fun M13 e13 => ?_⟩
  obtain ⟨h13, x13, g13⟩ := tx_ui h5 (i32s (by omega) (by omega)) e13 (Or.inr (Or.inr (Or.inl rfl)))
  have gg : ∀ b i, b ≠ q + 21 → b ≠ q + 22 → mI M13 b i = mI M b i := fun b i b1 b2 => by rw [g13, if_neg (by omega), g5, if_neg (by omega)]
  have ff : ∀ b, b ≠ q + 21 → b ≠ q + 22 → mI M13 b = mI M b := fun b b1 b2 => by funext i; exact gg b i b1 b2
  have nk13 : NK M13 (q + 1) A n V1 F1 ns1 c := by
    unfold NK at nk ⊢
    rw [ff A (fun u => (h.1.2.2.2.2.2.1.2.2 A (by omega)).1 (by omega)) (fun u => (h.1.2.2.2.2.2.1.2.2 A (by omega)).1 (by omega)), gg (q + 1) 19 (by omega) (by omega), gg (q + 1) 6 (by omega) (by omega), ff (q + 1 + 6) (by omega) (by omega), ff (q + 1 + 7) (by omega) (by omega), ff (q + 1 + 8) (by omega) (by omega), ff (q + 1 + 9) (by omega) (by omega)]
    exact nk
  have f13 : txF M q p O P s M13 := by
    have u := x5.trans x13
    exact ⟨u.1, u.2.1, u.2.2.1, u.2.2.2.1, u.2.2.2.2.1, u.2.2.2.2.2.1, fun i _ => ⟨gg O i (by omega) (by omega), gg P i (by omega) (by omega)⟩⟩
  rw [h13.1.2.1.2.1]
  refine ⟨h13.1.2.1.1, h13.1.1.2.1.1, (s_tx_rule i2 (i32s (by omega) (by omega)) h13 (by rw [gg _ _ (by omega) (by omega)]; exact ha) han (by rw [gg p 2 (by omega) (by omega)]; exact hs) hLs hsa (by rw [gg _ _ (by omega) (by omega)]; exact hd) hd4 nk13).mono (fun x18 M17 kk => ?_)⟩
  obtain ⟨i18, o17, r1, r2, ⟨r3, r4, r5, r6⟩, r7⟩ := kk
  have T21 : ∀ i, mI M17 (q + 21) i = if i = k then (s : Int) else mI M (q + 21) i := fun i => by
    rw [r5, g13, if_neg (by omega), g5]
    by_cases y : i = k
    · rw [if_pos ⟨rfl, y⟩, if_pos y]
    · rw [if_neg (fun u => y u.2), if_neg y]
  have b6 : mI M17 (q + 1) 6 = mI M (q + 1) 6 := by rw [r3, gg _ _ (by omega) (by omega)]
  have bq : mI M17 q = mI M q := by rw [r4, ff _ (by omega) (by omega)]
  refine ⟨i18, o17, fun y => ?_, fun y => ?_⟩
  · obtain ⟨-, a', u1, u2⟩ := r7.resolve_right (fun u => by have := u.1; omega)
    exact ⟨r1, f13.trans r2, ⟨b6, bq, T21⟩, Or.inl ⟨rfl, a', u1, u2⟩⟩
  · obtain ⟨-, e, H, a', u1, u2, u3, u4, u5, u6, u7, u8, u9, u10⟩ := r7.resolve_left (fun u => y u.1)
    rw [r1.1.2.1.2.2.2.1]
    refine ⟨r1.1.2.1.1, r1.1.1.2.2.2.2.1.1, (s_tx_add (i32s (by omega) (by omega)) (i32s (by omega) (by omega)) r1 u5 (by omega) (by omega)).mono (fun v M24 kk => ?_)⟩
    obtain ⟨v1, v2, v3, v4, v5, v6, v7, v8⟩ := kk
    refine ⟨v1, v2, v3, (f13.trans r2).trans (v4.less (by omega)), ⟨by rw [v8 (q + 1) (by omega) (by omega) (by omega)]; exact b6, by rw [v8 q (by omega) (by omega) (by omega)]; exact bq, fun i => by rw [v8 (q + 21) (by omega) (by omega) (by omega)]; exact T21 i⟩, Or.inr ⟨rfl, e, H, a', ⟨fun pc h0 h1 => ?_, u2, u3, u4, by rw [v6, if_pos rfl], by omega⟩, v5, by rw [v8 (q + 1) (by omega) (by omega) (by omega)]; exact u6, u7, u8, u9, by rw [v8 (q + 1) (by omega) (by omega) (by omega), u10, gg _ _ (by omega) (by omega)]⟩⟩
    rw [v6, v7, if_neg (by omega), if_neg (by omega)]
    exact u1 pc h0 h1
end TRC
end
section
/-! The class's reader of texts: const, formula, target. -/
section TRD
variable {G : mG} {d z q w T A B D N C n p O P K Ab Be Cm V F c s L L' cnt Bn a d0 V1 F1 nw : Nat} {M0 M M' M1 M2 : mM} {ns ns' ns1 : Nat → Int} {sf ef sf' ef' : Nat → Nat} {H : Nat → Nat} {S R : Nat → Prop}
/-- it does not stand: the reader stays sound -/
def nstQ (z q w T A B D N C n p O P K Ab Be Cm V F : Nat) (ns : Nat → Int) (sf ef : Nat → Nat) (c cnt L : Nat) (M' : mM) : Prop := TX M' z q w T A B D N C n p O P K Ab Be Cm V F ns sf ef c cnt L ∧ ∃ a' : Nat, mI M' (q + 1) 2 = a' ∧ a' ≤ n
def vco (l1 : Int) (V : Nat) : Nat := if l1 = 4 then 0 else V
def nco (l1 : Int) (ns : Nat → Int) : Nat → Int := if l1 = 4 then nsc ns else ns
/-- a const or formula stands: its code from L to e -/
def ndQ (M0 : mM) (z q w T A B D N C n p O P K Ab Be Cm V F : Nat) (ns : Nat → Int) (sf ef : Nat → Nat) (c cnt L : Nat) (l1 : Int) (x : Int) (M' : mM) : Prop := FI (txS q p O P) M0 M' ∧ ((x = 0 ∧ nstQ z q w T A B D N C n p O P K Ab Be Cm V F ns sf ef c cnt L M') ∨ (x = 1 ∧ TX M' z q w T A B D N C n p O P K Ab Be Cm V F ns sf ef c cnt L ∧ (60 ≤ F → mI M' (q + 1) 3 ≠ 0) ∧ ∃ e a' nw : Nat, ∃ H : Nat → Nat, Cod M' O P (vco l1 V) F (nco l1 ns) L e H 1 ∧ mI M' p 2 = ((e + 1 : Nat) : Int) ∧ mI M' (q + 1) 2 = (a' : Int) ∧ a' ≤ n ∧ e + 1 ≤ a' ∧ mI M' (q + 1) 5 = 0 ∧ mI M' q 3 = (nw : Int) ∧ nw < n ∧ mI M' A nw = 2 ∧ (mI M' q 8 = 0 ∨ mI M' q 8 = 1) ∧ mI M' (q + 21) 0 = (L : Int)))
/-- what lies apart -/
theorem TP.ne (h : TP M z q w T A B D N C n p O P K Ab Be Cm) : (p ≠ q ∧ p ≠ q + 1 ∧ p ≠ q + 21 ∧ p ≠ q + 22) ∧ (O ≠ q ∧ O ≠ q + 1 ∧ O ≠ q + 21 ∧ O ≠ q + 22 ∧ O ≠ p) ∧ (P ≠ q ∧ P ≠ q + 1 ∧ P ≠ q + 21 ∧ P ≠ q + 22 ∧ P ≠ p) := by
  have ap := h.apart
  have qp := h.2.2.2.2.2.1.2.1
  clear h
  omega
theorem q_ne (q : Nat) : q ≠ q + 1 ∧ q + 1 ≠ q ∧ q + 21 ≠ q ∧ q + 21 ≠ q + 1 ∧ q ≠ q + 21 ∧ q + 1 ≠ q + 21 ∧ q + 22 ≠ q ∧ q + 22 ≠ q + 1 ∧ q + 6 ≠ q + 1 ∧ q + 6 ≠ q := by omega
/-- from the rule on -/
theorem s_nd_tail {l1 : Int} (f0 : FI (txS q p O P) M0 M) (h : TX M z q w T A B D N C n p O P K Ab Be Cm V F ns sf ef c cnt L) (ha : mI M (q + 1) 2 = ((a : Nat) : Int)) (han : a ≤ n) (hs : mI M p 2 = ((L : Nat) : Int)) (hsa : L ≤ a) (hd : mI M (q + 1) 5 = ((0 : Nat) : Int)) (nk : NK M (q + 1) A n (vco l1 V) F (nco l1 ns) c) (hn : mI M q 3 = ((nw : Nat) : Int) ∧ nw < n ∧ mI M A nw = 2) (hY : 60 ≤ F → mI M (q + 1) 3 ≠ 0) : Ci G y_TR_readItemRule (d + 5) [vr q, vi 0, vi 0] M (fun x32 M31 => i32 x32 ∧ mOk M31 ∧ (((x32 = 0) → (ndQ M0 z q w T A B D N C n p O P K Ab Be Cm V F ns sf ef c cnt L l1 0 M31)) ∧ (¬ (x32 = 0) → (mK M31 q = 3 ∧ mK M31 (mR M31 q 0) = 4 ∧ Ci G y_RR_isTruth (d + 5) [vr (mR M31 q 0)] M31 (fun x39 M38 => i32 x39 ∧ mOk M38 ∧ (mK M38 q = 3 ∧ (x39 = 0 ∨ x39 = 1) ∧ ∀ M43, M43 = mUI M38 q 8 x39 → mK M43 (mR M43 q 0) = 4 ∧ Ci G y_RR_accept (d + 5) [vr (mR M43 q 0), vi 35] M43 (fun x47 M46 => i32 x47 ∧ mOk M46 ∧ ((x47 = 0 ∨ x47 = 1) ∧ ndQ M0 z q w T A B D N C n p O P K Ab Be Cm V F ns sf ef c cnt L l1 x47 M46)))))))) := by
  obtain ⟨⟨np0, np1, -, -⟩, ⟨nO0, nO1, -, -, -⟩, nP0, nP1, -, -, -⟩ := h.1.ne
  obtain ⟨q01, q10, q210, q211, -⟩ := q_ne q
  refine (s_TR_readItemRule (k := 0) (d0 := 0) (by omega) (i32s (by omega) (by omega)) h ha han hs (Nat.le_refl _) hsa hd (by omega) nk).mono (fun x32 M31 k => ?_)
  clear nk
  obtain ⟨h31, x31, ⟨-, q31, t31⟩, k31⟩ := k
  have i32' : i32 x32 := by
    clear h h31 x31 t31
    rcases k31 with u | u <;> rw [u.1] <;> exact ⟨by decide, by decide⟩
  refine ⟨i32', h31.1.1.1, fun y => ?_, fun y => ?_⟩
  · obtain ⟨-, u⟩ := k31.resolve_right (fun u => by rw [y] at u; exact absurd u.1 (by decide))
    exact ⟨f0.trans x31.1, Or.inl ⟨rfl, h31, u⟩⟩
  obtain ⟨-, e, H, a', cd, p31, a31, aa, an, ea, d31⟩ := k31.resolve_left (fun u => y u.1)
  clear k31
  rw [h31.1.2.1.2.1]
  refine ⟨h31.1.2.1.1, h31.1.1.2.1.1, (s_RR_isTruth h31.1.1 h31.2.1.2.2.2).mono (fun x39 M38 k => ?_)⟩
  obtain ⟨e38, hx39⟩ := k
  subst e38
  have i39 : i32 x39 := m_b32 hx39
  refine ⟨i39, h31.1.1.1, h31.1.2.1.1, hx39, fun M43 e43 => ?_⟩
  obtain ⟨h43, x43, g43⟩ := tx_ui h31 i39 e43 (Or.inl rfl)
  have gg : ∀ b, b ≠ q → mI M43 b = mI M38 b := fun b hb => by
    funext i
    rw [g43, if_neg (fun u => hb u.1)]
  rw [h43.1.2.1.2.1]
  refine ⟨h43.1.1.2.1.1, (s_tx_accept (x := 35) (i32s (by omega) (by omega)) (by omega) h43 (by rw [gg _ q10]; exact a31) an).mono (fun x47 M46 k => ?_)⟩
  obtain ⟨i47, o46, hx47, h46, x46, k46, r46, b46⟩ := k
  refine ⟨i47, o46, hx47, ?_⟩
  rcases k46 with ⟨e1, -, a46, an46⟩ | ⟨e1, e2⟩
  · refine ⟨((f0.trans x31.1).trans x43.1).trans x46.1, Or.inr ⟨e1, h46, fun y60 => x46.2.2.1 (x43.2.2.1 (x31.2.2.1 (hY y60))), e, a' + 1, nw, H, ?_, ?_, a46, an46, Nat.succ_le_succ ea, ?_, ?_, hn.2.1, ?_, ?_, ?_⟩⟩
    · exact cd.cg (fun i _ => by rw [b46 O nO1, gg O nO0]) (fun i _ => by rw [b46 P nP1, gg P nP0])
    · rw [b46 p np1, gg p np0]; exact p31
    · rw [r46 5 (by decide), gg _ q10, d31]; exact hd
    · rw [b46 q q01, g43, if_neg (fun u => absurd u.2 (by decide)), q31]; exact hn.1
    · rw [(h43.1.words x46.1).1, (h31.1.words x43.1).1, (h.1.words x31.1).1]; exact hn.2.2
    · rw [b46 q q01, g43, if_pos ⟨rfl, rfl⟩]; exact hx39
    · rw [b46 _ q211, gg _ q210, t31, if_pos rfl]
  · rw [e2]
    exact ⟨(f0.trans x31.1).trans x43.1, Or.inl ⟨e1, h43, a', by rw [gg _ q10]; exact a31, an⟩⟩
theorem s_TR_readNamed {l1 : Int} (h4 : l1 = 4 ∨ l1 = 7) (h : TX M z q w T A B D N C n p O P K Ab Be Cm V F ns sf ef c cnt L) (ha : mI M (q + 1) 2 = a) (han : a < n) (hs : mI M p 2 = L) (hsa : L ≤ a) (hd : mI M (q + 1) 5 = 0) : Ci G y_TR_readNamed (d + 6) [vr q, vi l1] M (ndQ M z q w T A B D N C n p O P K Ab Be Cm V F ns sf ef c cnt L l1) := by
  obtain ⟨⟨np0, np1, -, -⟩, -, -⟩ := h.1.ne
  obtain ⟨q01, q10, q210, q211, -⟩ := q_ne q
  have ok := h.1.1.1
  obtain ⟨t0, t1, t2, t3, t4, t5⟩ := h.1.2.1
  refine k_TR_readNamed ok (i32s (by omega) (by omega)) ⟨t0, fun v3 e3 => ?_⟩
  have b3 : v3 = 0 ∨ v3 = 1 := by rw [e3]; split <;> omega
  rw [t1]
  refine ⟨h.1.1.2.1.1, fun M9 e9 => ?_⟩
  obtain ⟨h9, x9, g9⟩ := tx_ui h (m_b32 b3) e9 (Or.inr (Or.inr (Or.inr (Or.inl ⟨rfl, Or.inr (Or.inr rfl)⟩))))
  rw [h9.1.2.1.2.2.2.1]
  refine ⟨h9.1.1.2.2.2.2.1.1, fun v13 e13 => ?_⟩
  have b13 : v13 = 0 ∨ v13 = 1 := by rw [e13]; split <;> omega
  have f9 := h9.2.1.2.1.1
  have y13 : 60 ≤ F → v13 ≠ 0 := fun y => by rw [e13, if_neg (by omega)]; decide
  refine (s_TR_readName (a := a) (m_b32 b13) h9 (by rw [g9, if_neg (fun u => absurd u.2 (by decide))]; exact ha) han).mono (fun x19 M18 k => ?_)
  obtain ⟨h18, x18, n18, y18, k18⟩ := k
  have i19 : i32 x19 := by rcases k18 with u | u <;> rw [u.1] <;> exact ⟨by decide, by decide⟩
  refine ⟨i19, h18.1.1.1, fun y => ?_, fun y => ?_⟩
  · obtain ⟨-, u⟩ := k18.resolve_right (fun u => by rw [y] at u; exact absurd u.1 (by decide))
    exact ⟨x9.1.trans x18.1, Or.inl ⟨rfl, h18, u⟩⟩
  obtain ⟨-, a18, a2n, q18, A18⟩ := k18.resolve_left (fun u => y u.1)
  clear k18
  rw [h18.1.2.1.2.1]
  refine ⟨h18.1.2.1.1, h18.1.1.2.1.1, (s_tx_accept (x := 24) (i32s (by omega) (by omega)) (by omega) h18 a18 a2n).mono (fun x26 M25 k => ?_)⟩
  obtain ⟨i26, o25, -, h25, x25, k25, r25, b25⟩ := k
  refine ⟨i26, o25, fun y => ?_, fun y => ?_⟩
  · have e := (k25.resolve_left (fun u => by rw [y] at u; exact absurd u.1 (by decide))).2
    rw [e]
    exact ⟨x9.1.trans x18.1, Or.inl ⟨rfl, h18, _, a18, a2n⟩⟩
  obtain ⟨-, -, a25, a3n⟩ := k25.resolve_right (fun u => y u.1)
  clear k25
  have c25 : mI M25 (q + 1) 6 = v3 := by rw [r25 6 (by decide), n18.1 6 (by decide) (by decide) (by decide), g9, if_pos ⟨rfl, rfl⟩]
  have p25 : mI M25 p 2 = L := by rw [b25 p np1, n18.2.2 p np0 np1, g9, if_neg (fun u => np1 u.1)]; exact hs
  have d25 : mI M25 (q + 1) 5 = ((0 : Nat) : Int) := by rw [r25 5 (by decide), n18.1 5 (by decide) (by decide) (by decide), g9, if_neg (fun u => absurd u.2 (by decide))]; exact hd
  have nk : NK M25 (q + 1) A n (vco l1 V) F (nco l1 ns) c := by
    unfold vco nco
    by_cases y4 : l1 = 4
    · rw [if_pos y4, if_pos y4]
      rw [if_pos y4] at e3
      exact h25.2.1.2.2.1.nkc (by rw [c25, e3]; decide)
    · rw [if_neg y4, if_neg y4]
      exact h25.2.1.2.2.1.nk
  exact ⟨h25.1.2.1.1, s_nd_tail ((x9.1.trans x18.1).trans x25.1) h25 a25 a3n p25 (by omega) d25 nk ⟨by rw [b25 q q01]; exact q18, by omega, by rw [(h18.1.words x25.1).1]; exact A18⟩ (fun y => x25.2.2.1 (y18 (y13 y)))⟩
theorem PG.longer (h : PG M p O P V F ns sf ef L cnt Bn) (hL : L ≤ L') : PG M p O P V F ns sf ef L' cnt Bn := by
  obtain ⟨g1, g2, g3, g4, g5, g6, g7⟩ := h
  have up : ∀ {s h : Nat}, PC M O P V F ns ef L s h → PC M O P V F ns ef L' s h := fun hc => hc.wide (Nat.le_refl _) (Nat.le_refl _) hL (fun _ _ => ⟨rfl, rfl⟩)
  refine ⟨g1.wide (Nat.le_refl _) hL, g2.imp (fun y => y) (fun ⟨s, y1, y2⟩ => ⟨s, y1, up y2⟩), fun j hj => ?_, g4, g5, g6, fun b hb => ?_⟩
  · obtain ⟨s, y1, y2⟩ := g3 j hj
    exact ⟨s, y1, up y2⟩
  · obtain ⟨s1, s2, y1, y2, y3, y4⟩ := g7 b hb
    exact ⟨s1, s2, y1, up y2, y3, up y4⟩
/-- a target stands -/
def tgQ (M0 : mM) (z q w T A B D N C n p O P K Ab Be Cm V F : Nat) (ns : Nat → Int) (sf ef : Nat → Nat) (c cnt L : Nat) (x : Int) (M' : mM) : Prop := FI (txS q p O P) M0 M' ∧ ((x = 0 ∧ ∃ L', nstQ z q w T A B D N C n p O P K Ab Be Cm V F ns sf ef c cnt L' M') ∨ (x = 1 ∧ ∃ L' a' : Nat, TX M' z q w T A B D N C n p O P K Ab Be Cm V F ns sf ef c cnt L' ∧ mI M' p 2 = (L' : Int) ∧ mI M' (q + 1) 2 = (a' : Int) ∧ a' ≤ n ∧ L' ≤ a' ∧ mI M' (q + 1) 5 = 0))
theorem s_rt8 (f0 : FI (txS q p O P) M0 M) (h : TX M z q w T A B D N C n p O P K Ab Be Cm V F ns sf ef c cnt L) (ha : mI M (q + 1) 2 = a) (han : a < n) (hs : mI M p 2 = L) (hsa : L ≤ a) (hd : mI M (q + 1) 5 = 0) (e8 : M1 = mUI M (q + 1) 2 ((a : Int) + 1)) (e11 : M2 = mUI M1 (q + 1) 6 0) : mOk M2 ∧ mK M1 (mR M1 q 0) = 4 ∧ mR M1 q 0 = q + 1 ∧ Ci G y_TR_readItemRule (d + 5) [vr q, vi 0, vi 2] M2 (fun x14 M13 => i32 x14 ∧ mOk M13 ∧ (((x14 = 0) → (tgQ M0 z q w T A B D N C n p O P K Ab Be Cm V F ns sf ef c cnt L 0 M13)) ∧ (¬ (x14 = 0) → (mK M13 q = 3 ∧ mK M13 (mR M13 q 5) = 30 ∧ ((0 : Int) ≤ 0 ∧ 0 < (mN M13 (mR M13 q 5) : Int)) ∧ mK M13 (mR M13 q 2) = 6 ∧ ∀ M22, M22 = mUI M13 (mR M13 q 2) 11 (mI M13 (mR M13 q 5) 0) → mK M22 (mR M22 q 0) = 4 ∧ Ci G y_RR_accept (d + 5) [vr (mR M22 q 0), vi 35] M22 (fun x26 M25 => i32 x26 ∧ mOk M25 ∧ ((x26 = 0 ∨ x26 = 1) ∧ tgQ M0 z q w T A B D N C n p O P K Ab Be Cm V F ns sf ef c cnt L x26 M25)))))) := by
  have ap := h.1.apart
  have qp := h.1.2.2.2.2.2.1.2.1
  have ok := h.1.1.1
  have hN : n ≤ 16384 := by have := h.1.1.2.2.2.1.2.2.1; have := h.1.1.2.2.2.1.1.2.2.2.2.2.2.1; omega
  obtain ⟨h1, x1, g1⟩ := tx_ui h ⟨by omega, by omega⟩ e8 (Or.inr (Or.inr (Or.inr (Or.inl ⟨rfl, Or.inl rfl⟩))))
  obtain ⟨h2, x2, g2⟩ := tx_ui h1 (i32s (by omega) (by omega)) e11 (Or.inr (Or.inr (Or.inr (Or.inl ⟨rfl, Or.inr (Or.inr rfl)⟩))))
  have gb : ∀ b i, b ≠ q + 1 → mI M2 b i = mI M b i := fun b i hb => by rw [g2, if_neg (by omega), g1, if_neg (by omega)]
  have a2 : mI M2 (q + 1) 2 = ((a + 1 : Nat) : Int) := by rw [g2, if_neg (by omega), g1, if_pos ⟨rfl, rfl⟩]; omega
  have d2 : mI M2 (q + 1) 5 = ((0 : Nat) : Int) := by rw [g2, if_neg (by omega), g1, if_neg (by omega)]; exact hd
  refine ⟨h2.1.1.1, by rw [h1.1.2.1.2.1]; exact h1.1.1.2.1.1, h1.1.2.1.2.1, (s_TR_readItemRule (k := 0) (s := L) (d0 := 0) (by omega) (i32s (by omega) (by omega)) h2 a2 (by omega) (by rw [gb p 2 (by omega)]; exact hs) (Nat.le_refl _) (by omega) d2 (by omega) h2.2.1.2.2.1.nk).mono (fun x14 M13 k => ?_)⟩
  obtain ⟨h13, x13, ⟨c13, q13, t13⟩, k13⟩ := k
  have i14 : i32 x14 := by rcases k13 with u | u <;> rw [u.1] <;> exact i32s (by omega) (by omega)
  refine ⟨i14, h13.1.1.1, fun y => ?_, fun y => ?_⟩
  · obtain ⟨-, u⟩ := k13.resolve_right (fun u => by have := u.1; omega)
    exact ⟨((f0.trans x1.1).trans x2.1).trans x13.1, Or.inl ⟨rfl, L, h13, u⟩⟩
  obtain ⟨-, e, H, a', cd, p13, a13, aa, an, ea, d13⟩ := k13.resolve_left (fun u => y u.1)
  clear k13
  obtain ⟨⟨np0, np1, np21, -⟩, ⟨nO0, nO1, -, -, nOp⟩, nP0, nP1, -, -, nPp⟩ := h13.1.ne
  have pn : ∀ i, 3 ≤ i → p + i ≠ p := fun i hi => by omega
  have qn : ∀ i, i ≤ 10 → q + i ≠ p := fun i hi => by omega
  obtain ⟨t0, t1, t2, t3, t4, t5⟩ := h13.1.2.1
  obtain ⟨s1, s2, s3, s4⟩ := h13.1.2.2.1
  rw [t3, t4, s3, t13, if_pos rfl]
  refine ⟨t0, s1, ⟨by omega, by omega⟩, h13.1.1.2.2.2.2.1.1, fun M22 e22 => ?_⟩
  have f22 : FI (txS q p O P) M13 M22 := by rw [e22]; exact FI.ui (Or.inr (Or.inr (Or.inr (Or.inl rfl))))
  have g22 : ∀ b i, mI M22 b i = if b = p ∧ i = 11 then (L : Int) else mI M13 b i := fun b i => mI_ui b i e22
  have gg : ∀ b, b ≠ p → mI M22 b = mI M13 b := fun b hb => by
    funext i
    rw [g22, if_neg (fun u => hb u.1)]
  have o22 : mOk M22 := by rw [e22]; exact mOk_UI h13.1.1.1 ⟨by omega, by omega⟩
  have hse : L ≤ e := cd.2.2.2.2.2
  have h22 : TX M22 z q w T A B D N C n p O P K Ab Be Cm V F ns sf ef c cnt (e + 1) := by
    refine ⟨h13.1.fi o22 f22, ?_, ?_⟩
    · obtain ⟨u1, u2, u3, u4⟩ := h13.2.1
      refine ⟨by rw [g22, if_neg (by omega)]; exact u1, by rw [g22, if_neg (by omega)]; exact u2, ?_, fun j => by rw [gg _ (by omega)]; exact u4 j⟩
      unfold TN at u3 ⊢
      rw [(h13.1.words f22).1, gg _ (by omega), gg _ (by omega), gg _ (by omega), gg _ (by omega), gg _ (by omega)]
      exact u3
    · obtain ⟨u1, u2⟩ := h13.2.2
      refine ⟨by rw [g22, if_neg (by omega)]; exact u1, fun y0 => ?_⟩
      rw [gg _ (qn 1 (by decide))] at y0
      obtain ⟨u, eu, gu⟩ := u2 y0
      obtain ⟨v1, v2, v3, v4, v5, v6, v7⟩ := gu.longer (L' := e + 1) (Nat.le_succ_of_le hse)
      have cg : ∀ {s h : Nat}, PC M13 O P V F ns ef (e + 1) s h → PC M22 O P V F ns ef (e + 1) s h := fun hc => hc.cg (fun i _ => by rw [gg O nOp]) (fun i _ => by rw [gg P nPp])
      refine ⟨u, by rw [gg _ (pn _ (by decide))]; exact eu, v1.cg (fun i _ => by rw [gg O nOp]) (fun i _ => by rw [gg P nPp]) (fun i _ => by rw [gg _ (pn _ (by decide))]) (fun i _ => by rw [gg _ (pn _ (by decide))]), Or.inr ⟨L, by rw [g22, if_pos ⟨rfl, rfl⟩], cg ⟨e, H, F, cd, Nat.lt_succ_self _, Nat.le_refl _, fun y hy h7 => ((gu.1 y hy).2 h7).2.2.1⟩⟩, fun j hj => ?_, by rw [gg _ (pn _ (by decide))]; exact v4, by rw [gg _ (pn _ (by decide))]; exact v5, by rw [gg _ (pn _ (by decide))]; exact v6, fun b hb => ?_⟩
      · obtain ⟨s, y1, y2⟩ := v3 j hj
        exact ⟨s, by rw [gg _ (pn _ (by decide))]; exact y1, cg y2⟩
      · obtain ⟨s1, s2, y1, y2, y3, y4⟩ := v7 b hb
        exact ⟨s1, s2, by rw [gg _ (pn _ (by decide))]; exact y1, cg y2, by rw [gg _ (pn _ (by decide))]; exact y3, cg y4⟩
  have a22 : mI M22 (q + 1) 2 = (a' : Int) := by rw [gg _ (by omega)]; exact a13
  rw [h22.1.2.1.2.1]
  refine ⟨h22.1.1.2.1.1, (s_tx_accept (i32s (by omega) (by omega)) (by omega) h22 a22 an).mono (fun x26 M25 k => ?_)⟩
  obtain ⟨i26, o25, hx26, h25, x25, k25, r25, b25⟩ := k
  refine ⟨i26, o25, hx26, ?_⟩
  rcases k25 with ⟨e1, -, a25, an25⟩ | ⟨e1, e2⟩
  · refine ⟨((((f0.trans x1.1).trans x2.1).trans x13.1).trans f22).trans x25.1, Or.inr ⟨e1, e + 1, a' + 1, h25, by rw [b25 p (by omega), g22, if_neg (by omega)]; exact p13, a25, by omega, by omega, by rw [r25 5 (by decide), gg _ (by omega), d13, d2]; rfl⟩⟩
  · rw [e2]
    exact ⟨(((f0.trans x1.1).trans x2.1).trans x13.1).trans f22, Or.inl ⟨e1, e + 1, h22, a', a22, an⟩⟩
theorem s_TR_readTarget (h : TX M z q w T A B D N C n p O P K Ab Be Cm V F ns sf ef c cnt L) (ha : mI M (q + 1) 2 = a) (han : a < n) (hs : mI M p 2 = L) (hsa : L ≤ a) (hd : mI M (q + 1) 5 = 0) : Ci G y_TR_readTarget (d + 6) [vr q] M (tgQ M z q w T A B D N C n p O P K Ab Be Cm V F ns sf ef c cnt L) := by
  have ap := h.1.apart
  have ok := h.1.1.1
  have hN : n ≤ 16384 := by have := h.1.1.2.2.2.1.2.2.1; have := h.1.1.2.2.2.1.1.2.2.2.2.2.2.1; omega
  obtain ⟨t0, t1, t2, t3, t4, t5⟩ := h.1.2.1
  refine k_TR_readTarget ok ?_
  rw [t1, t3, ha]
  refine ⟨t0, h.1.1.2.2.2.2.1.1, fun _ => ⟨h.1.1.2.1.1, ⟨by omega, by omega⟩, fun M8 e8 => ?_⟩, fun _ => ⟨h.1.1.2.1.1, (s_RR_here h.1.1 ha (by omega)).mono (fun x31 M30 k => ?_)⟩⟩
  · have k4 := (s_rt8 (G := G) (d := d) (M0 := M) FI.refl h ha han hs hsa hd e8 rfl).2.1
    have kr := (s_rt8 (G := G) (d := d) (M0 := M) FI.refl h ha han hs hsa hd e8 rfl).2.2.1
    refine ⟨k4, fun M11 e11 => ?_⟩
    rw [kr] at e11
    exact (s_rt8 FI.refl h ha han hs hsa hd e8 e11).2.2.2
  · obtain ⟨e30, -, x0, x1⟩ := k
    subst e30
    refine ⟨i32s (by omega) (by omega), ok, h.1.1.2.1.1, (s_tx_note (i32s (by omega) (by omega)) (by omega) (i32s (by omega) (by omega)) h).mono (fun M34 kk => ?_)⟩
    obtain ⟨o34, h34, x34, u3, u4, u5⟩ := kk
    have a34 : mI M34 (q + 1) 2 = a := by rw [u4 2 (by decide) (by decide)]; exact ha
    have p34 : mI M34 p 2 = L := by rw [u5 p (by have := h.1.2.2.2.2.2.1.2.1; omega)]; exact hs
    have d34 : mI M34 (q + 1) 5 = 0 := by rw [u4 5 (by decide) (by decide)]; exact hd
    rw [h34.1.2.1.2.1, a34]
    refine ⟨o34, h34.1.2.1.1, h34.1.1.2.1.1, ⟨by omega, by omega⟩, fun M8 e8 => ?_⟩
    have k4 := (s_rt8 (G := G) (d := d) x34.1 h34 a34 han p34 hsa d34 e8 rfl).2.1
    have kr := (s_rt8 (G := G) (d := d) x34.1 h34 a34 han p34 hsa d34 e8 rfl).2.2.1
    refine ⟨k4, fun M11 e11 => ?_⟩
    rw [kr] at e11
    exact (s_rt8 x34.1 h34 a34 han p34 hsa d34 e8 e11).2.2.2
end TRD
end
section
/-! The class's reader of texts: var. -/
section TRE
variable {G : mG} {d z q w T A B D N C n p O P K Ab Be Cm V F c s s' L L' cnt Bn a d0 V1 F1 nw k : Nat} {M0 M M' M1 M2 : mM} {ns ns' ns1 : Nat → Int} {sf ef sf' ef' : Nat → Nat} {H : Nat → Nat} {S R : Nat → Prop}
/-- the item's rule k, below s' -/
def rvR (M : mM) (q O P F : Nat) (ns : Nat → Int) (L s' k : Nat) : Prop := ∃ s e H, mI M (q + 21) k = ((s : Nat) : Int) ∧ Cod M O P 0 F (nsc ns) s e H 1 ∧ L ≤ s ∧ e < s'
theorem rvR.cg {s1 s2 : Nat} (h : rvR M q O P F ns L s1 k) (h1 : mI M' (q + 21) k = mI M (q + 21) k) (hO : ∀ i, i < s1 → mI M' O i = mI M O i ∧ mI M' P i = mI M P i) (hs : s1 ≤ s2) : rvR M' q O P F ns L s2 k := by
  obtain ⟨s, e, H, a1, a2, a3, a4⟩ := h
  exact ⟨s, e, H, by rw [h1]; exact a1, a2.cg (fun i hi => (hO i (by omega)).1) (fun i hi => (hO i (by omega)).2), a3, by omega⟩
/-- what the item has so far -/
def vrS (M : mM) (q A n p L s a nw V : Nat) : Prop := mI M p 2 = ((s : Nat) : Int) ∧ L ≤ s ∧ s ≤ a ∧ mI M (q + 1) 2 = ((a : Nat) : Int) ∧ a ≤ n ∧ mI M (q + 1) 5 = 0 ∧ mI M q 3 = ((nw : Nat) : Int) ∧ nw < n ∧ mI M A nw = 2 ∧ mI M q 4 = ((L : Nat) : Int) ∧ (mI M q 8 = 0 ∨ mI M q 8 = 1) ∧ (12 ≤ V → mI M (q + 1) 3 ≠ 0)
def vaQ (M0 : mM) (z q w T A B D N C n p O P K Ab Be Cm V F : Nat) (ns : Nat → Int) (sf ef : Nat → Nat) (c cnt L : Nat) (x : Int) (M' : mM) : Prop := FI (txS q p O P) M0 M' ∧ ((x = 0 ∧ nstQ z q w T A B D N C n p O P K Ab Be Cm V F ns sf ef c cnt L M') ∨ (x = 1 ∧ TX M' z q w T A B D N C n p O P K Ab Be Cm V F ns sf ef c cnt L ∧ ∃ s a nw : Nat, vrS M' q A n p L s a nw V ∧ (mI M' q 8 = 0 → rvR M' q O P F ns L s 0 ∧ rvR M' q O P F ns L s 1) ∧ (mI M' q 7 ≠ 0 → rvR M' q O P F ns L s 2)))
/-- the last word of a var -/
theorem s_rv35 (f0 : FI (txS q p O P) M0 M) (h : TX M z q w T A B D N C n p O P K Ab Be Cm V F ns sf ef c cnt L) (hs : mI M p 2 = ((s : Nat) : Int)) (hLs : L ≤ s) (hsa : s ≤ a + 1) (ha : mI M (q + 1) 2 = ((a : Nat) : Int)) (han : a ≤ n) (hd : mI M (q + 1) 5 = 0) (hn : mI M q 3 = ((nw : Nat) : Int) ∧ nw < n ∧ mI M A nw = 2 ∧ mI M q 4 = ((L : Nat) : Int) ∧ (mI M q 8 = 0 ∨ mI M q 8 = 1) ∧ (12 ≤ V → mI M (q + 1) 3 ≠ 0)) (h8 : mI M q 8 = 0 → rvR M q O P F ns L s 0 ∧ rvR M q O P F ns L s 1) (h7 : mI M q 7 ≠ 0 → rvR M q O P F ns L s 2) : Ci G y_RR_accept d [vr (q + 1), vi 35] M (fun x69 M68 => i32 x69 ∧ mOk M68 ∧ ((x69 = 0 ∨ x69 = 1) ∧ vaQ M0 z q w T A B D N C n p O P K Ab Be Cm V F ns sf ef c cnt L x69 M68)) := by
  have ap := h.1.apart
  have qp := h.1.2.2.2.2.2.1.2.1
  refine (s_tx_accept (i32s (by omega) (by omega)) (by omega) h ha han).mono (fun x M' k => ?_)
  obtain ⟨i1, o1, hx, h1, x1, k1, r1, b1⟩ := k
  refine ⟨i1, o1, hx, ?_⟩
  rcases k1 with ⟨e1, -, a1, an1⟩ | ⟨e1, e2⟩
  · obtain ⟨n1, n2, n3, n4, n5, n6⟩ := hn
    refine ⟨f0.trans x1.1, Or.inr ⟨e1, h1, s, a + 1, nw, ⟨by rw [b1 p (by omega)]; exact hs, hLs, by omega, a1, by omega, by rw [r1 5 (by decide)]; exact hd, by rw [b1 q (by omega)]; exact n1, n2, by rw [(h.1.words x1.1).1]; exact n3, by rw [b1 q (by omega)]; exact n4, by rw [b1 q (by omega)]; exact n5, fun y => by rw [r1 3 (by decide)]; exact n6 y⟩, fun y => ?_, fun y => ?_⟩⟩
    · rw [b1 q (by omega)] at y
      obtain ⟨u1, u2⟩ := h8 y
      exact ⟨u1.cg (by rw [b1 _ (by omega)]) (fun i _ => ⟨by rw [b1 O (by omega)], by rw [b1 P (by omega)]⟩) (Nat.le_refl _), u2.cg (by rw [b1 _ (by omega)]) (fun i _ => ⟨by rw [b1 O (by omega)], by rw [b1 P (by omega)]⟩) (Nat.le_refl _)⟩
    · rw [b1 q (by omega)] at y
      exact (h7 y).cg (by rw [b1 _ (by omega)]) (fun i _ => ⟨by rw [b1 O (by omega)], by rw [b1 P (by omega)]⟩) (Nat.le_refl _)
  · rw [e2]
    exact ⟨f0, Or.inl ⟨e1, h, a, ha, han⟩⟩
/-- the tail of a var: its init -/
theorem s_rv10 (f0 : FI (txS q p O P) M0 M) (h : TX M z q w T A B D N C n p O P K Ab Be Cm V F ns sf ef c cnt L) (hs : mI M p 2 = ((s : Nat) : Int)) (hLs : L ≤ s) (hsa : s ≤ a + 1) (ha : mI M (q + 1) 2 = ((a : Nat) : Int)) (han : a ≤ n) (hd : mI M (q + 1) 5 = 0) (hr6 : mI M (q + 1) 6 ≠ 0) (hn : mI M q 3 = ((nw : Nat) : Int) ∧ nw < n ∧ mI M A nw = 2 ∧ mI M q 4 = ((L : Nat) : Int) ∧ (mI M q 8 = 0 ∨ mI M q 8 = 1) ∧ (12 ≤ V → mI M (q + 1) 3 ≠ 0)) (h8 : mI M q 8 = 0 → rvR M q O P F ns L s 0 ∧ rvR M q O P F ns L s 1) : Ci G y_RR_accept (d + 5) [vr (q + 1), vi 10] M (fun x59 M58 => i32 x59 ∧ mOk M58 ∧ (mK M58 q = 3 ∧ (x59 = 0 ∨ x59 = 1) ∧ ∀ M63, M63 = mUI M58 q 7 x59 → ((mI M63 q 7 = 0) → (mK M63 (mR M63 q 0) = 4 ∧ Ci G y_RR_accept (d + 5) [vr (mR M63 q 0), vi 35] M63 (fun x69 M68 => i32 x69 ∧ mOk M68 ∧ ((x69 = 0 ∨ x69 = 1) ∧ vaQ M0 z q w T A B D N C n p O P K Ab Be Cm V F ns sf ef c cnt L x69 M68)))) ∧ (¬ (mI M63 q 7 = 0) → (∀ v73 : Int, v73 = (if (mI M63 q 8 = 0) then 1 else 2) → Ci G y_TR_readItemRule (d + 5) [vr q, vi 2, vi v73] M63 (fun x78 M77 => i32 x78 ∧ mOk M77 ∧ (((x78 = 0) → (vaQ M0 z q w T A B D N C n p O P K Ab Be Cm V F ns sf ef c cnt L 0 M77)) ∧ (¬ (x78 = 0) → (mK M77 q = 3 ∧ mK M77 (mR M77 q 0) = 4 ∧ Ci G y_RR_accept (d + 5) [vr (mR M77 q 0), vi 35] M77 (fun x85 M84 => i32 x85 ∧ mOk M84 ∧ ((x85 = 0 ∨ x85 = 1) ∧ vaQ M0 z q w T A B D N C n p O P K Ab Be Cm V F ns sf ef c cnt L x85 M84)))))))))) := by
  have ap := h.1.apart
  have qp := h.1.2.2.2.2.2.1.2.1
  obtain ⟨n1, n2, n3, n4, n5, n6⟩ := hn
  refine (s_tx_accept (i32s (by omega) (by omega)) (by omega) h ha han).mono (fun x59 M58 k => ?_)
  obtain ⟨i1, o1, hx, h1, x1, k1, r1, b1⟩ := k
  refine ⟨i1, o1, h1.1.2.1.1, hx, fun M63 e63 => ?_⟩
  obtain ⟨h63, x63, g63⟩ := tx_ui h1 i1 e63 (Or.inl rfl)
  have gg : ∀ b, b ≠ q → mI M63 b = mI M58 b := fun b hb => by
    funext i
    rw [g63, if_neg (by omega)]
  have bb : ∀ b, b ≠ q → b ≠ q + 1 → mI M63 b = mI M b := fun b h0 h1 => by rw [gg b h0, b1 b h1]
  have qq : ∀ i, i ≠ 7 → mI M63 q i = mI M q i := fun i hi => by rw [g63, if_neg (fun u => hi u.2), b1 q (by omega)]
  have rr : ∀ i, i ≠ 2 → mI M63 (q + 1) i = mI M (q + 1) i := fun i hi => by rw [gg _ (by omega), r1 i hi]
  have A63 : mI M63 A nw = 2 := by rw [(h1.1.words x63.1).1, (h.1.words x1.1).1]; exact n3
  have hn63 : mI M63 q 3 = ((nw : Nat) : Int) ∧ nw < n ∧ mI M63 A nw = 2 ∧ mI M63 q 4 = ((L : Nat) : Int) ∧ (mI M63 q 8 = 0 ∨ mI M63 q 8 = 1) ∧ (12 ≤ V → mI M63 (q + 1) 3 ≠ 0) := ⟨by rw [qq 3 (by decide)]; exact n1, n2, A63, by rw [qq 4 (by decide)]; exact n4, by rw [qq 8 (by decide)]; exact n5, fun y => by rw [rr 3 (by decide)]; exact n6 y⟩
  have v63 : mI M63 q 8 = 0 → rvR M63 q O P F ns L s 0 ∧ rvR M63 q O P F ns L s 1 := fun y => by
    rw [qq 8 (by decide)] at y
    obtain ⟨u1, u2⟩ := h8 y
    exact ⟨u1.cg (by rw [bb _ (by omega) (by omega)]) (fun i _ => ⟨by rw [bb O (by omega) (by omega)], by rw [bb P (by omega) (by omega)]⟩) (Nat.le_refl _), u2.cg (by rw [bb _ (by omega) (by omega)]) (fun i _ => ⟨by rw [bb O (by omega) (by omega)], by rw [bb P (by omega) (by omega)]⟩) (Nat.le_refl _)⟩
  have p63 : mI M63 p 2 = ((s : Nat) : Int) := by rw [bb p (by omega) (by omega)]; exact hs
  have d63 : mI M63 (q + 1) 5 = 0 := by rw [rr 5 (by decide)]; exact hd
  rw [h63.1.2.1.2.1]
  refine ⟨fun y => ⟨h63.1.1.2.1.1, ?_⟩, fun y v73 e73 => ?_⟩
  · have e0 : x59 = 0 := by
      rw [g63, if_pos ⟨rfl, rfl⟩] at y
      exact y
    have e2 := (k1.resolve_left (fun u => by have := u.1; omega)).2
    have a63 : mI M63 (q + 1) 2 = ((a : Nat) : Int) := by rw [gg _ (by omega), e2]; exact ha
    exact s_rv35 ((f0.trans x1.1).trans x63.1) h63 p63 hLs hsa a63 han d63 hn63 v63 (fun u => absurd y u)
  · have e0 : x59 ≠ 0 := fun u => y (by rw [g63, if_pos ⟨rfl, rfl⟩]; exact u)
    obtain ⟨-, -, a58, an58⟩ := k1.resolve_right (fun u => e0 u.1)
    have a63 : mI M63 (q + 1) 2 = ((a + 1 : Nat) : Int) := by rw [gg _ (by omega)]; exact a58
    have i73 : i32 v73 := by rw [e73]; split <;> exact i32s (by omega) (by omega)
    have c63 : mI M63 (q + 1) 6 ≠ 0 := by rw [rr 6 (by decide)]; exact hr6
    refine (s_TR_readItemRule (k := 2) (d0 := 0) (by omega) i73 h63 a63 (by omega) p63 hLs hsa d63 (by omega) (h63.2.1.2.2.1.nkc c63)).mono (fun x78 M77 k => ?_)
    obtain ⟨h77, x77, ⟨c77, q77, t77⟩, k77⟩ := k
    have i78 : i32 x78 := by rcases k77 with u | u <;> rw [u.1] <;> exact i32s (by omega) (by omega)
    refine ⟨i78, h77.1.1.1, fun y => ?_, fun y => ?_⟩
    · obtain ⟨-, u⟩ := k77.resolve_right (fun u => by have := u.1; omega)
      exact ⟨((f0.trans x1.1).trans x63.1).trans x77.1, Or.inl ⟨rfl, h77, u⟩⟩
    obtain ⟨-, e, H, a', cd, p77, a77, aa, an, ea, d77⟩ := k77.resolve_left (fun u => y u.1)
    have se : s ≤ e := cd.2.2.2.2.2
    have fo : ∀ i, i < s → mI M77 O i = mI M63 O i ∧ mI M77 P i = mI M63 P i := x77.2.2.2.2.2.2
    rw [h77.1.2.1.2.1]
    refine ⟨h77.1.2.1.1, h77.1.1.2.1.1, s_rv35 (s := e + 1) (((f0.trans x1.1).trans x63.1).trans x77.1) h77 p77 (by omega) (by omega) a77 an (by rw [d77]; exact d63) ⟨by rw [q77]; exact hn63.1, n2, by rw [(h63.1.words x77.1).1]; exact A63, by rw [q77]; exact hn63.2.2.2.1, by rw [q77]; exact hn63.2.2.2.2.1, fun u => x77.2.2.1 (hn63.2.2.2.2.2 u)⟩ (fun u => ?_) (fun _ => ⟨s, e, H, by rw [t77, if_pos rfl], cd, hLs, by omega⟩)⟩
    rw [q77] at u
    obtain ⟨u1, u2⟩ := v63 u
    exact ⟨u1.cg (by rw [t77, if_neg (by decide)]) fo (by omega), u2.cg (by rw [t77, if_neg (by decide)]) fo (by omega)⟩
end TRE
end
section
/-! The class's reader of texts: var, the whole. -/
section TRF
variable {G : mG} {d z q w T A B D N C n p O P K Ab Be Cm V F c s s' L L' cnt Bn a d0 V1 F1 nw k : Nat} {M0 M M' M1 M2 : mM} {ns ns' ns1 : Nat → Int} {sf ef sf' ef' : Nat → Nat} {H : Nat → Nat} {S R : Nat → Prop}
theorem s_TR_readVar (h : TX M z q w T A B D N C n p O P K Ab Be Cm V F ns sf ef c cnt L) (ha : mI M (q + 1) 2 = a) (han : a < n) (hs : mI M p 2 = L) (hsa : L ≤ a) (hd : mI M (q + 1) 5 = 0) : Ci G y_TR_readVar (d + 6) [vr q] M (vaQ M z q w T A B D N C n p O P K Ab Be Cm V F ns sf ef c cnt L) := by
  have ap := h.1.apart
  have qp := h.1.2.2.2.2.2.1.2.1
  have ok := h.1.1.1
  have hN : n ≤ 16384 := by have := h.1.1.2.2.2.1.2.2.1; have := h.1.1.2.2.2.1.1.2.2.2.2.2.2.1; omega
  obtain ⟨⟨np0, np1, -, -⟩, ⟨nO0, nO1, -, -, -⟩, nP0, nP1, -, -, -⟩ := h.1.ne
  obtain ⟨q01, q10, q210, q211, -⟩ := q_ne q
  obtain ⟨t0, t1, t2, t3, t4, t5⟩ := h.1.2.1
  refine k_TR_readVar ok ?_
  rw [t1]
  refine ⟨t0, h.1.1.2.1.1, fun M3 e3 => ?_⟩
  obtain ⟨h3, x3, g3⟩ := tx_ui h (i32s (by omega) (by omega)) e3 (Or.inr (Or.inr (Or.inr (Or.inl ⟨rfl, Or.inr (Or.inr rfl)⟩))))
  have p3 : mI M3 p 2 = L := by rw [g3, if_neg (by omega)]; exact hs
  rw [h3.1.2.1.2.2.2.1, p3]
  refine ⟨h3.1.1.2.2.2.2.1.1, fun M6 e6 => ?_⟩
  obtain ⟨h6, x6, g6⟩ := tx_ui h3 ⟨by omega, by omega⟩ e6 (Or.inl rfl)
  rw [h6.1.2.1.2.2.2.1]
  refine ⟨h6.1.1.2.2.2.2.1.1, fun v10 e10 => ?_⟩
  have b10 : v10 = 0 ∨ v10 = 1 := by rw [e10]; split <;> omega
  have f6 := h6.2.1.1.1
  refine (s_TR_readName (a := a) (i32s (by omega) (by omega)) h6 (by rw [g6, if_neg (by omega), g3, if_neg (by omega)]; exact ha) han).mono (fun x16 M15 k => ?_)
  obtain ⟨h15, x15, n15, y15, k15⟩ := k
  have i16 : i32 x16 := by rcases k15 with u | u <;> rw [u.1] <;> exact i32s (by omega) (by omega)
  refine ⟨i16, h15.1.1.1, fun y => ?_, fun y => ?_⟩
  · obtain ⟨-, u⟩ := k15.resolve_right (fun u => by have := u.1; omega)
    exact ⟨(x3.1.trans x6.1).trans x15.1, Or.inl ⟨rfl, h15, u⟩⟩
  obtain ⟨-, a15, a2n, q15, A15⟩ := k15.resolve_left (fun u => y u.1)
  clear k15
  rw [h15.1.2.1.2.1]
  refine ⟨h15.1.2.1.1, h15.1.1.2.1.1, (s_tx_accept (i32s (by omega) (by omega)) (by omega) h15 a15 a2n).mono (fun x23 M22 k => ?_)⟩
  obtain ⟨i23, o22, -, h22, x22, k22, r22, b22⟩ := k
  refine ⟨i23, o22, fun y => ?_, fun y => ?_⟩
  · have e := (k22.resolve_left (fun u => by have := u.1; omega)).2
    rw [e]
    exact ⟨(x3.1.trans x6.1).trans x15.1, Or.inl ⟨rfl, h15, _, a15, a2n⟩⟩
  obtain ⟨-, -, a22, a3n⟩ := k22.resolve_right (fun u => y u.1)
  clear k22
  rw [h22.1.2.1.2.1]
  refine ⟨h22.1.2.1.1, h22.1.1.2.1.1, (s_tx_accept (i32s (by omega) (by omega)) (by omega) h22 a22 (by omega)).mono (fun x30 M29 k => ?_)⟩
  obtain ⟨i30, o29, hx30, h29, x29, k29, r29, b29⟩ := k
  refine ⟨i30, o29, h29.1.2.1.1, hx30, fun M34 e34 => ?_⟩
  obtain ⟨h34, x34, g34⟩ := tx_ui h29 i30 e34 (Or.inl rfl)
  have gg : ∀ b, b ≠ q → mI M34 b = mI M29 b := fun b hb => by
    funext i
    rw [g34, if_neg (by omega)]
  have q34 : ∀ i, i ≠ 8 → mI M34 q i = mI M15 q i := fun i hi => by rw [g34, if_neg (fun u => hi u.2), b29 q (by omega), b22 q (by omega)]
  have r34 : ∀ i, i ≠ 2 → mI M34 (q + 1) i = mI M15 (q + 1) i := fun i hi => by rw [gg _ (by omega), r29 i hi, r22 i hi]
  have c34 : mI M34 (q + 1) 6 ≠ 0 := by rw [r34 6 (by decide), n15.1 6 (by decide) (by decide) (by decide), g6, if_neg (by omega), g3, if_pos ⟨rfl, rfl⟩]; omega
  have d34 : mI M34 (q + 1) 5 = 0 := by rw [r34 5 (by decide), n15.1 5 (by decide) (by decide) (by decide), g6, if_neg (by omega), g3, if_neg (by omega)]; exact hd
  have p34 : mI M34 p 2 = ((L : Nat) : Int) := by rw [gg p (by omega), b29 p (by omega), b22 p (by omega), n15.2.2 p (by omega) (by omega), g6, if_neg (by omega)]; exact p3
  have hn : mI M34 q 3 = ((a + 1 : Nat) : Int) ∧ a + 1 < n ∧ mI M34 A (a + 1) = 2 ∧ mI M34 q 4 = ((L : Nat) : Int) ∧ (mI M34 q 8 = 0 ∨ mI M34 q 8 = 1) ∧ (12 ≤ V → mI M34 (q + 1) 3 ≠ 0) := by
    refine ⟨by rw [q34 3 (by decide)]; exact q15, by omega, ?_, by rw [q34 4 (by decide), n15.2.1 4 (by decide), g6, if_pos ⟨rfl, rfl⟩], by rw [g34, if_pos ⟨rfl, rfl⟩]; exact hx30, fun y => ?_⟩
    · rw [(h29.1.words x34.1).1, (h22.1.words x29.1).1, (h15.1.words x22.1).1]
      exact A15
    · rw [r34 3 (by decide)]
      exact y15 (by rw [e10, if_neg (by omega)]; omega)
  have f34 : FI (txS q p O P) M M34 := ((((x3.1.trans x6.1).trans x15.1).trans x22.1).trans x29.1).trans x34.1
  refine ⟨fun y8 => ?_, fun y8 => ?_⟩
  · -- numbers
    have e0 : x30 = 0 := by rw [g34, if_pos ⟨rfl, rfl⟩] at y8; exact y8
    have e29 := (k29.resolve_left (fun u => by have := u.1; omega)).2
    have a34 : mI M34 (q + 1) 2 = ((a + 2 + 1 : Nat) : Int) := by rw [gg _ (by omega), e29]; exact a22
    refine (s_TR_readItemRule (k := 0) (d0 := 0) (by omega) (i32s (by omega) (by omega)) h34 a34 (by omega) p34 (Nat.le_refl _) (by omega) d34 (by omega) (h34.2.1.2.2.1.nkc c34)).mono (fun x39 M38 k => ?_)
    obtain ⟨h38, x38, ⟨c38, q38, t38⟩, k38⟩ := k
    have i39 : i32 x39 := by rcases k38 with u | u <;> rw [u.1] <;> exact i32s (by omega) (by omega)
    refine ⟨i39, h38.1.1.1, fun y => ?_, fun y => ?_⟩
    · obtain ⟨-, u⟩ := k38.resolve_right (fun u => by have := u.1; omega)
      exact ⟨f34.trans x38.1, Or.inl ⟨rfl, h38, u⟩⟩
    obtain ⟨-, eA, HA, aA, cdA, p38, a38, aa38, an38, ea38, d38⟩ := k38.resolve_left (fun u => y u.1)
    clear k38
    have seA : L ≤ eA := cdA.2.2.2.2.2
    rw [h38.1.2.1.2.1]
    refine ⟨h38.1.2.1.1, h38.1.1.2.1.1, (s_tx_accept (i32s (by omega) (by omega)) (by omega) h38 a38 an38).mono (fun x46 M45 k => ?_)⟩
    obtain ⟨i46, o45, -, h45, x45, k45, r45, b45⟩ := k
    refine ⟨i46, o45, fun y => ?_, fun y => ?_⟩
    · have e := (k45.resolve_left (fun u => by have := u.1; omega)).2
      rw [e]
      exact ⟨f34.trans x38.1, Or.inl ⟨rfl, h38, _, a38, an38⟩⟩
    obtain ⟨-, -, a45, an45⟩ := k45.resolve_right (fun u => y u.1)
    clear k45
    have c45 : mI M45 (q + 1) 6 ≠ 0 := by rw [r45 6 (by decide), c38]; exact c34
    have d45 : mI M45 (q + 1) 5 = 0 := by rw [r45 5 (by decide), d38]; exact d34
    have p45 : mI M45 p 2 = ((eA + 1 : Nat) : Int) := by rw [b45 p np1]; exact p38
    refine ⟨h45.1.2.1.1, (s_TR_readItemRule (k := 1) (d0 := 0) (by omega) (i32s (by omega) (by omega)) h45 a45 (by omega) p45 (by omega) (by omega) d45 (by omega) (h45.2.1.2.2.1.nkc c45)).mono (fun x52 M51 k => ?_)⟩
    obtain ⟨h51, x51, ⟨c51, q51, t51⟩, k51⟩ := k
    have i52 : i32 x52 := by rcases k51 with u | u <;> rw [u.1] <;> exact i32s (by omega) (by omega)
    refine ⟨i52, h51.1.1.1, fun y => ?_, fun y => ?_⟩
    · obtain ⟨-, u⟩ := k51.resolve_right (fun u => by have := u.1; omega)
      exact ⟨((f34.trans x38.1).trans x45.1).trans x51.1, Or.inl ⟨rfl, h51, u⟩⟩
    obtain ⟨-, eB, HB, aB, cdB, p51, a51, aa51, an51, ea51, d51⟩ := k51.resolve_left (fun u => y u.1)
    clear k51
    have seB : eA + 1 ≤ eB := cdB.2.2.2.2.2
    have q51' : mI M51 q = mI M34 q := by rw [q51, b45 q q01, q38]
    rw [h51.1.2.1.2.1]
    refine ⟨h51.1.2.1.1, h51.1.1.2.1.1, s_rv10 (s := eB + 1) (((f34.trans x38.1).trans x45.1).trans x51.1) h51 p51 (by omega) (by omega) a51 an51 (by rw [d51]; exact d45) (by rw [c51]; exact c45) ⟨by rw [q51']; exact hn.1, hn.2.1, ?_, by rw [q51']; exact hn.2.2.2.1, by rw [q51']; exact hn.2.2.2.2.1, fun u => x51.2.2.1 (x45.2.2.1 (x38.2.2.1 (hn.2.2.2.2.2 u)))⟩ (fun _ => ⟨⟨L, eA, HA, ?_, ?_, Nat.le_refl _, by omega⟩, ⟨eA + 1, eB, HB, by rw [t51, if_pos rfl], cdB, by omega, by omega⟩⟩)⟩
    · rw [(h45.1.words x51.1).1, (h38.1.words x45.1).1, (h34.1.words x38.1).1]
      exact hn.2.2.1
    · rw [t51, if_neg (by decide), b45 _ q211, t38, if_pos rfl]
    · exact cdA.cg (fun i hi => by rw [(x51.2.2.2.2.2.2 i (by omega)).1, b45 O nO1]) (fun i hi => by rw [(x51.2.2.2.2.2.2 i (by omega)).2, b45 P nP1])
  · have e0 : x30 ≠ 0 := fun u => y8 (by rw [g34, if_pos ⟨rfl, rfl⟩]; exact u)
    obtain ⟨-, -, a29, an29⟩ := k29.resolve_right (fun u => e0 u.1)
    have a34 : mI M34 (q + 1) 2 = ((a + 2 + 1 + 1 : Nat) : Int) := by rw [gg _ (by omega)]; exact a29
    rw [h34.1.2.1.2.1]
    exact ⟨h34.1.1.2.1.1, s_rv10 (s := L) f34 h34 p34 (Nat.le_refl _) (by omega) a34 (by omega) d34 c34 hn (fun u => absurd u y8)⟩
end TRF
end
section
/-! The class's reader of texts: worksOut. -/
section TRG
variable {G : mG} {d z q w T A B D N C n p O P K Ab Be Cm V F c s s' L L' cnt Bn a d0 V1 F1 nw k e s9 : Nat} {M0 M M' M1 M2 : mM} {ns ns' ns1 : Nat → Int} {sf ef sf' ef' : Nat → Nat} {H : Nat → Nat} {S R : Nat → Prop}
/-- a run of the machine: what stays -/
def maF (M : mM) (q Ab Be Cm : Nat) (M' : mM) (Ab' Be' Cm' : Nat) : Prop := FA (mcS (q + 11) Ab Be) (fun x => x = q + 11) M M' ∧ ((Ab' = Ab ∨ mZ M ≤ Ab') ∧ (Be' = Be ∨ mZ M ≤ Be')) ∧ (mS M' + 4 * Cm = mS M + 4 * Cm' ∧ 32 * mZ M' + Cm ≤ 32 * mZ M + Cm')
def sm4 (M M' : mM) (x : Nat) : Prop := mK M' x = mK M x ∧ mN M' x = mN M x ∧ mR M' x = mR M x ∧ mI M' x = mI M x
theorem RK.eq {r : Nat} (h : RK M r) (v : ∀ i, i ≤ 9 → sm4 M M' (r + i)) : RK M' r := by
  unfold RK at h ⊢
  have v0 := v 0 (by omega)
  rw [Nat.add_zero] at v0
  rw [v0.1, v0.2.2.1, (v 1 (by omega)).1, (v 2 (by omega)).1, (v 3 (by omega)).1, (v 4 (by omega)).1, (v 5 (by omega)).1, (v 6 (by omega)).1, (v 7 (by omega)).1, (v 8 (by omega)).1, (v 9 (by omega)).1, (v 1 (by omega)).2.1, (v 2 (by omega)).2.1, (v 3 (by omega)).2.1, (v 4 (by omega)).2.1, (v 5 (by omega)).2.1, (v 6 (by omega)).2.1, (v 7 (by omega)).2.1, (v 8 (by omega)).2.1, (v 9 (by omega)).2.1]
  exact h
theorem Wf.eq (h : Wf M w T A B D N C n) (sw : ∀ x, (x = w ∨ x = T ∨ x = A ∨ x = B ∨ x = D) → sm4 M M' x) : Wf M' w T A B D N C n := by
  unfold Wf WA at h ⊢
  obtain ⟨w1, w2, w3, w4⟩ := sw w (Or.inl rfl)
  obtain ⟨x1, x2, x3, x4⟩ := sw T (Or.inr (Or.inl rfl))
  obtain ⟨y1, y2, y3, y4⟩ := sw A (Or.inr (Or.inr (Or.inl rfl)))
  obtain ⟨z1, z2, z3, z4⟩ := sw B (Or.inr (Or.inr (Or.inr (Or.inl rfl))))
  obtain ⟨v1, v2, v3, v4⟩ := sw D (Or.inr (Or.inr (Or.inr (Or.inr rfl))))
  rw [w1, w3, w4, x1, x2, y1, y2, y4, z1, z2, z4, v1, v2, v4]
  exact h
theorem TP.st (h : TP M z q w T A B D N C n p O P K Ab Be Cm) (hf : FA (mcS (q + 11) Ab Be) (fun x => x = q + 11) M M') : ∀ x, x < mZ M → ¬ (q + 11 ≤ x ∧ x ≤ q + 20) → x ≠ Ab → x ≠ Be → sm4 M M' x := fun x hx h1 h2 h3 => by
  obtain ⟨u1, u2, u3, u4, u5⟩ := hf.2 x hx
  refine ⟨u1, u2, u4 (show ¬ x = q + 11 by omega), u5 (fun y => ?_)⟩
  have y' : x = q + 11 ∨ x = q + 11 + 2 ∨ (q + 11 + 5 ≤ x ∧ x ≤ q + 11 + 9) ∨ x = Ab ∨ x = Be := y
  omega
theorem TP.mst (h : TP M z q w T A B D N C n p O P K Ab Be Cm) (hf : FA (mcS (q + 11) Ab Be) (fun x => x = q + 11) M M') : (∀ i, i ≤ 10 → sm4 M M' (q + i)) ∧ sm4 M M' (q + 21) ∧ sm4 M M' (q + 22) ∧ (∀ i, i ≤ 15 → sm4 M M' (p + i)) ∧ sm4 M M' O ∧ sm4 M M' P ∧ (∀ x, (x = w ∨ x = T ∨ x = A ∨ x = B ∨ x = D) → sm4 M M' x) := by
  have st := h.st hf
  obtain ⟨⟨aA1, aA2, aA3, aA4, aA5, aA6⟩, aO, aP, aO2, aP2, aOP⟩ := h.apart
  have zz : z ≤ mZ M := h.2.2.2.1.2.2.2.2.2.2.1.1
  obtain ⟨pz0, pz1, pz2⟩ := h.1.2.2.2.2.1.2.2.2.2.1
  obtain ⟨s1, s2, s3⟩ := h.2.2.2.2.2.1
  clear h hf
  refine ⟨fun i hi => st _ (by omega) (by omega) (by omega) (by omega), st _ (by omega) (by omega) (by omega) (by omega), st _ (by omega) (by omega) (by omega) (by omega), fun i hi => st _ (by omega) (by omega) (by omega) (by omega), st O pz1 (by omega) (by omega) (by omega), st P pz2 (by omega) (by omega) (by omega), fun x hx => ?_⟩
  obtain ⟨u1, u2, u3, u4⟩ := s3 x hx
  exact st x u4 (by omega) u2 u3
theorem TP.ma {Ab' Be' Cm' : Nat} (h : TP M z q w T A B D N C n p O P K Ab Be Cm) (ok : mOk M') (hk : MK M' z (q + 11) (q + 12) Ab' Be' Cm') (hf : FA (mcS (q + 11) Ab Be) (fun x => x = q + 11) M M') (hab : (Ab' = Ab ∨ mZ M ≤ Ab') ∧ (Be' = Be ∨ mZ M ≤ Be')) (h0 : mR M' (q + 11) 0 = mR M (q + 11) 0) : TP M' z q w T A B D N C n p O P K Ab' Be' Cm' := by
  obtain ⟨m1, m2, m3, m4, m5, m6, m7⟩ := h.mst hf
  have np : ¬ p = q + 11 := by have := h.apart.1.1; omega
  obtain ⟨⟨b1, b2, b3, b4, b5, b6, b7⟩, t1, t2, t3, t4, ⟨s1, s2, s3⟩, s4⟩ := h
  obtain ⟨pz0, pz1, pz2⟩ := b5.2.2.2.2.1
  have s0 := m1 0 (by omega)
  have r0 := m1 1 (by omega)
  rw [Nat.add_zero] at s0
  have zz := hf.1.1
  refine ⟨⟨ok, b2.eq (fun i hi => by rw [show q + 1 + i = q + (1 + i) by omega]; exact m1 _ (by omega)), by rw [r0.2.2.1]; exact b3, b4.eq m7, b5.fa hf np, b6, b7⟩, by rw [s0.1, s0.2.2.1]; exact t1, by rw [m2.1, m3.1, m2.2.1, m3.2.1]; exact t2, hk, by rw [h0]; exact t4, ⟨s1, s2, fun x hx => ?_⟩, ?_⟩
  · obtain ⟨u1, u2, u3, u4⟩ := s3 x hx
    clear b1 b2 b3 b4 b5 b6 t1 t2 t3 t4 hk
    exact ⟨u1, by omega, by omega, by omega⟩
  · clear b1 b2 b3 b4 b5 b6 t1 t2 t3 t4 hk
    omega
theorem TX.ma {t cc : Nat} (h : TX M z q w T A B D N C n p O P K Ab Be Cm V F ns sf ef c cnt L) (hM : MS M z (q + 11) (q + 12) Ab Be Cm M' t cc) : ∃ Ab' Be' Cm', TX M' z q w T A B D N C n p O P K Ab' Be' Cm' V F ns sf ef c cnt L ∧ maF M q Ab Be Cm M' Ab' Be' Cm' ∧ (∀ j, j < t → 1 ≤ mI M' Be' j ∧ mI M' Be' j < 1000000000) ∧ (mI M' q = mI M q ∧ mI M' (q + 1) = mI M (q + 1) ∧ mI M' (q + 21) = mI M (q + 21) ∧ mI M' (q + 22) = mI M (q + 22) ∧ mI M' p = mI M p ∧ mI M' O = mI M O ∧ mI M' P = mI M P ∧ mI M' A = mI M A) := by
  obtain ⟨Ab', Be', Cm', ok, hk, hf, hab, hr, ⟨h8, htC, hb⟩, h15, hm⟩ := hM
  obtain ⟨hP, hC, hX⟩ := h
  obtain ⟨m1, m2, m3, m4, m5, m6, m7⟩ := hP.mst hf
  have s0 := m1 0 (by omega)
  have r0 := m1 1 (by omega)
  rw [Nat.add_zero] at s0
  have p0 := m4 0 (by omega)
  rw [Nat.add_zero] at p0
  have eE : txE M q p O P L M' := ⟨fun i _ _ _ _ _ _ _ _ => by rw [r0.2.2.2], fun y => by rw [r0.2.2.2]; exact y, fun i i6 i9 => by rw [show q + 1 + i = q + (1 + i) by omega]; exact (m1 (1 + i) (by omega)).2.2.2, fun i _ => by rw [p0.2.2.2], fun i _ i15 => (m4 i i15).2.2.2, fun i _ => ⟨by rw [m5.2.2.2], by rw [m6.2.2.2]⟩⟩
  have mA := (m7 A (Or.inr (Or.inr (Or.inl rfl)))).2.2.2
  exact ⟨Ab', Be', Cm', ⟨hP.ma ok hk hf hab hm.2.2, hC.tx mA eE (fun j => by rw [(m1 6 (by omega)).2.2.2]; exact hC.2.2.2 j), hX.tx eE⟩, ⟨hf, hab, hr⟩, hb, s0.2.2.2, r0.2.2.2, m2.2.2.2, m3.2.2.2, p0.2.2.2, m5.2.2.2, m6.2.2.2, mA⟩
/-- what working out a rule comes to -/
def wuQ (M : mM) (z q w T A B D N C n p O P K Ab Be Cm V F : Nat) (ns : Nat → Int) (sf ef : Nat → Nat) (c cnt L : Nat) (x : Int) (M' : mM) : Prop := ∃ Ab' Be' Cm', TX M' z q w T A B D N C n p O P K Ab' Be' Cm' V F ns sf ef c cnt L ∧ FA (fun x => x = q + 1 ∨ mcS (q + 11) Ab Be x) (fun x => x = q + 11) M M' ∧ ((Ab' = Ab ∨ mZ M ≤ Ab') ∧ (Be' = Be ∨ mZ M ≤ Be')) ∧ (mS M' + 4 * Cm = mS M + 4 * Cm' ∧ 32 * mZ M' + Cm ≤ 32 * mZ M + Cm') ∧ (mI M' q = mI M q ∧ (∀ i, i ≠ 3 → i ≠ 4 → mI M' (q + 1) i = mI M (q + 1) i) ∧ mI M' (q + 21) = mI M (q + 21) ∧ mI M' p = mI M p ∧ mI M' O = mI M O ∧ mI M' P = mI M P ∧ mI M' A = mI M A) ∧ ((x = 0) ∨ (x = 1 ∧ mI M' (q + 1) 3 = 0 ∧ 1 ≤ mI M' Be' 0 ∧ mI M' Be' 0 < 1000000000))
theorem s_TR_worksOut {l2 : Int} (hF : FMs G) (hk : k < 3) (i2 : i32 l2) (h : TX M z q w T A B D N C n p O P K Ab Be Cm V F ns sf ef c cnt L) (h0 : mI M (q + 1) 3 = 0) (hr : mI M (q + 21) k = ((s : Nat) : Int)) (cd : Cod M O P V1 F ns1 s e H 1) (n7 : ∀ y, y < F → ns1 y ≠ 7) (n4 : ∀ y, y < F → ns1 y = 4 → ns y = 4) (hV1 : V1 ≤ 12) (hp2 : mI M p 2 = ((s9 : Nat) : Int)) (he9 : e < s9) (hs9 : s9 ≤ n) : Ci G y_TR_worksOut (d + 5) [vr q, vi k, vi l2] M (wuQ M z q w T A B D N C n p O P K Ab Be Cm V F ns sf ef c cnt L) := by
  have ap := h.1.apart
  have qp := h.1.2.2.2.2.2.1.2.1
  have ok := h.1.1.1
  have hK := h.1.1.2.2.2.2.2.2
  have hN : n ≤ 16384 := by have := h.1.1.2.2.2.1.2.2.1; have := h.1.1.2.2.2.1.1.2.2.2.2.2.2.1; omega
  obtain ⟨t0, t1, t2, t3, t4, t5⟩ := h.1.2.1
  obtain ⟨s1, s2, s3, s4⟩ := h.1.2.2.1
  obtain ⟨u, eu, gu⟩ := h.2.2.2 h0
  have fo : FO M p O P V1 ns1 sf ef s9 F := fun x hx => ⟨fun y => (gu.1 x hx).1 (n4 x hx y), fun y => absurd y (n7 x hx)⟩
  refine k_TR_worksOut ok (i32s (by omega) (by omega)) i2 ?_
  rw [t2, t4, s3, Int.toNat_natCast, hr]
  refine ⟨t0, s1, by omega, h.1.2.2.2.1.1, (s_Ma_run (X := fun _ => False) hF ok h.1.2.2.2.1 (fun x hx => hx.elim) h.1.1.2.2.2.2.1 h.1.2.2.2.2.1 ap.1 hp2 (by omega) (by omega) fo (fun x hx y => absurd y (n7 x hx)) h.2.1.2.1.2 hV1 cd he9 (fun y hy y7 => absurd y7 (n7 y hy))).mono (fun x6 M5 k5 => ?_)⟩
  obtain ⟨-, k5⟩ := k5
  have i6 : i32 x6 := by rcases k5 with u | u <;> rw [u.1] <;> exact i32s (by omega) (by omega)
  obtain ⟨Ab', Be', Cm', h5, ⟨m1, m2, m3⟩, hb5, q0, q1, q21, q22, qp5, qO, qP, qA⟩ : ∃ Ab' Be' Cm', TX M5 z q w T A B D N C n p O P K Ab' Be' Cm' V F ns sf ef c cnt L ∧ maF M q Ab Be Cm M5 Ab' Be' Cm' ∧ (¬ (x6 = 0) → 1 ≤ mI M5 Be' 0 ∧ mI M5 Be' 0 < 1000000000) ∧ (mI M5 q = mI M q ∧ mI M5 (q + 1) = mI M (q + 1) ∧ mI M5 (q + 21) = mI M (q + 21) ∧ mI M5 (q + 22) = mI M (q + 22) ∧ mI M5 p = mI M p ∧ mI M5 O = mI M O ∧ mI M5 P = mI M P ∧ mI M5 A = mI M A) := by
    rcases k5 with ⟨e1, -, t, cc, hM⟩ | ⟨e1, hM⟩
    · obtain ⟨Ab', Be', Cm', v1, v2, v3, v4⟩ := h.ma hM
      exact ⟨Ab', Be', Cm', v1, v2, fun y => absurd e1 y, v4⟩
    · obtain ⟨Ab', Be', Cm', v1, v2, v3, v4⟩ := h.ma hM
      exact ⟨Ab', Be', Cm', v1, v2, fun _ => v3 0 (by omega), v4⟩
  have m1' : FA (fun x => x = q + 1 ∨ mcS (q + 11) Ab Be x) (fun x => x = q + 11) M M5 := m1.mono (fun _ _ y => Or.inr y) (fun _ _ y => y)
  have nt : ∀ {y zz : Int}, i32 y → i32 zz → Cv G y_RR_note (d + 4) [vr (q + 1), vi y, vi zz] M5 (fun M19 => mOk M19 ∧ wuQ M z q w T A B D N C n p O P K Ab Be Cm V F ns sf ef c cnt L 0 M19) := fun {y zz} iy iz => (s_tx_note0 iy iz h5).mono (fun M19 kk => by
    obtain ⟨o19, h19, x19, u4, u5⟩ := kk
    have ap5 := h5.1.apart
    refine ⟨o19, Ab', Be', Cm', h19, ?_, m2, ?_, ⟨by rw [u5 q (by omega)]; exact q0, fun i i3 i4 => by rw [u4 i i3 i4, q1], by rw [u5 _ (by omega)]; exact q21, by rw [u5 p (by omega)]; exact qp5, by rw [u5 O (by omega)]; exact qO, by rw [u5 P (by omega)]; exact qP, by rw [(h5.1.words x19.1).1]; exact qA⟩, Or.inl rfl⟩
    · have f19 : FA (fun x => x = q + 1) (fun _ => False) M5 M19 := ⟨⟨by rw [x19.1.2.2.2.2.1]; exact Nat.le_refl _, by rw [x19.1.2.2.2.2.2.1]; exact Nat.le_refl _⟩, fun x _ => ⟨by rw [x19.1.1], by rw [x19.1.2.1], by rw [x19.1.2.2.2.1], fun _ => by rw [x19.1.2.2.1], fun y => u5 x y⟩⟩
      exact m1'.trans2 f19 (fun x _ y => Or.inl y) (fun _ _ y => y.elim)
    · rw [x19.1.2.2.2.2.1, x19.1.2.2.2.2.2.1]
      exact m3)
  have k5m := h5.1.2.2.2.1
  obtain ⟨r0, r1, r2, r3, r4, r5⟩ := h5.1.2.1
  have rB : mR M5 (q + 11) 7 = Be' := k5m.2.1.2.2.2.1
  rw [r1, r2, r5, rB]
  refine ⟨i6, h5.1.1.1, fun y => ⟨r0, k5m.1, h5.1.1.2.1.1, ?_⟩, fun y => ⟨fun _ => ⟨r0, k5m.1, k5m.2.2.1.2.2.2.1, ⟨by omega, ?_⟩⟩, fun _ => ?_, fun y2 => ⟨r0, h5.1.2.2.1.2.1, ⟨by omega, by rw [h5.1.2.2.1.2.2.2]; omega⟩, h5.1.1.2.1.1, nt (i32s (by omega) (by omega)) (h5.1.1.1 _ _).1⟩⟩⟩
  · exact nt (h5.1.1.1 _ _).1 (h5.1.1.1 _ _).1
  · have := k5m.2.2.2.1.2.2.1
    have := k5m.2.2.2.2.2.2.2
    omega
  · exact ⟨Ab', Be', Cm', h5, m1', m2, m3, ⟨q0, fun i _ _ => by rw [q1], q21, qp5, qO, qP, qA⟩, Or.inr ⟨by rcases k5 with u | u <;> omega, by rw [q1]; exact h0, hb5 y⟩⟩
end TRG
end
section
/-! The class's reader of texts: a name is settled. -/
section TRH
variable {G : mG} {d z q w T A B D N C n p O P K Ab Be Cm V F c s s' L L' cnt Bn a d0 V1 F1 nw k e s9 Ab0 Be0 Cm0 Ab1 Be1 Cm1 : Nat} {M0 M M' M1 M2 : mM} {ns ns' ns1 : Nat → Int} {sf ef sf' ef' : Nat → Nat} {H : Nat → Nat} {S R : Nat → Prop}
/-- what reading a text may change, with the room that it takes -/
def trS (q p O P Ab Be : Nat) : Nat → Prop := fun x => txS q p O P x ∨ mcS (q + 11) Ab Be x
def trF (M0 : mM) (q p O P Ab0 Be0 Cm0 : Nat) (M : mM) (Ab Be Cm : Nat) : Prop := FA (trS q p O P Ab0 Be0) (fun x => x = q + 11) M0 M ∧ ((Ab = Ab0 ∨ mZ M0 ≤ Ab) ∧ (Be = Be0 ∨ mZ M0 ≤ Be)) ∧ (mS M + 4 * Cm0 = mS M0 + 4 * Cm ∧ 32 * mZ M + Cm0 ≤ 32 * mZ M0 + Cm)
theorem trF.refl : trF M q p O P Ab Be Cm M Ab Be Cm := ⟨FA.refl, ⟨Or.inl rfl, Or.inl rfl⟩, rfl, Nat.le_refl _⟩
theorem trF.trans (f : trF M0 q p O P Ab0 Be0 Cm0 M Ab Be Cm) (g : trF M q p O P Ab Be Cm M1 Ab1 Be1 Cm1) : trF M0 q p O P Ab0 Be0 Cm0 M1 Ab1 Be1 Cm1 := by
  obtain ⟨f1, ⟨f2, f3⟩, f4, f5⟩ := f
  obtain ⟨g1, ⟨g2, g3⟩, g4, g5⟩ := g
  have zz := f1.1.1
  refine ⟨f1.trans2 g1 (fun x hx y => ?_) (fun _ _ y => y), ⟨by omega, by omega⟩, by omega, by omega⟩
  rcases y with y | y
  · exact Or.inl y
  · refine Or.inr ?_
    have y' : x = q + 11 ∨ x = q + 11 + 2 ∨ (q + 11 + 5 ≤ x ∧ x ≤ q + 11 + 9) ∨ x = Ab ∨ x = Be := y
    show x = q + 11 ∨ x = q + 11 + 2 ∨ (q + 11 + 5 ≤ x ∧ x ≤ q + 11 + 9) ∨ x = Ab0 ∨ x = Be0
    omega
theorem trF.fi (f : FI (txS q p O P) M M1) : trF M q p O P Ab Be Cm M1 Ab Be Cm := ⟨(FI.fa f).mono (fun _ _ y => Or.inl y) (fun _ _ y => y), ⟨Or.inl rfl, Or.inl rfl⟩, by rw [f.2.2.2.2.2.1], by rw [f.2.2.2.2.1]; omega⟩
/-- an item has been read and settled -/
def itE (M0 : mM) (z q w T A B D N C n p O P K Ab0 Be0 Cm0 : Nat) (M' : mM) : Prop := ∃ (Ab Be Cm V F : Nat) (ns : Nat → Int) (sf ef : Nat → Nat) (c cnt L a : Nat), TX M' z q w T A B D N C n p O P K Ab Be Cm V F ns sf ef c cnt L ∧ mI M' p 2 = ((L : Nat) : Int) ∧ mI M' (q + 1) 2 = ((a : Nat) : Int) ∧ a ≤ n ∧ L ≤ a ∧ mI M' (q + 1) 5 = 0 ∧ trF M0 q p O P Ab0 Be0 Cm0 M' Ab Be Cm
def un (ns : Nat → Int) (F : Nat) (l : Int) : Nat → Int := fun x => if x = F then l else ns x
def uf (sf : Nat → Nat) (F v : Nat) : Nat → Nat := fun x => if x = F then v else sf x
theorem PX.cg (h : PX M q p O P V F ns sf ef L cnt) (f3 : mI M (q + 1) 3 ≠ 0 → mI M' (q + 1) 3 ≠ 0) (f5 : ∀ i, i ≠ 2 → mI M' p i = mI M p i) (f6 : ∀ i, 3 ≤ i → i ≤ 15 → mI M' (p + i) = mI M (p + i)) (f7 : ∀ i, i < L → mI M' O i = mI M O i ∧ mI M' P i = mI M P i) : PX M' q p O P V F ns sf ef L cnt := by
  obtain ⟨a1, a2⟩ := h
  refine ⟨by rw [f5 12 (by decide)]; exact a1, fun h0 => ?_⟩
  obtain ⟨u, e, g1, g2, g3, g4, g5, g6, g7⟩ := a2 (Classical.byContradiction (fun y => f3 y h0))
  have cg : ∀ {s h : Nat}, PC M O P V F ns ef L s h → PC M' O P V F ns ef L s h := fun hc => hc.cg (fun i hi => (f7 i hi).1) (fun i hi => (f7 i hi).2)
  refine ⟨u, by rw [f6 12 (by omega) (by omega)]; exact e, g1.cg (fun i hi => (f7 i hi).1) (fun i hi => (f7 i hi).2) (fun i _ => by rw [f6 7 (by omega) (by omega)]) (fun i _ => by rw [f6 8 (by omega) (by omega)]), ?_, fun j hj => ?_, by rw [f6 12 (by omega) (by omega)]; exact g4, by rw [f6 12 (by omega) (by omega)]; exact g5, by rw [f6 12 (by omega) (by omega)]; exact g6, fun b hb => ?_⟩
  · rw [f5 11 (by decide)]
    exact g2.imp (fun y => y) (fun ⟨s, y1, y2⟩ => ⟨s, y1, cg y2⟩)
  · obtain ⟨s, y1, y2⟩ := g3 j hj
    exact ⟨s, by rw [f6 11 (by omega) (by omega)]; exact y1, cg y2⟩
  · obtain ⟨s1, s2, y1, y2, y3, y4⟩ := g7 b hb
    exact ⟨s1, s2, by rw [f6 14 (by omega) (by omega)]; exact y1, cg y2, by rw [f6 15 (by omega) (by omega)]; exact y3, cg y4⟩
/-- one name more: a const with its value, or a formula with its code -/
theorem PG.name {l1 : Int} (h : PG M p O P V F ns sf ef L cnt Bn) (hLL : L ≤ L') (f7 : ∀ i, i < L → mI M' O i = mI M O i ∧ mI M' P i = mI M P i) (h11 : mI M' p 11 = mI M p 11) (f6 : ∀ i, 9 ≤ i → i ≤ 15 → mI M' (p + i) = mI M (p + i)) (h7 : ∀ i, i < F → mI M' (p + 7) i = mI M (p + 7) i) (h8 : ∀ i, i < F → mI M' (p + 8) i = mI M (p + 8) i) (new : (l1 = 4 ∧ 1 ≤ mI M' (p + 7) F ∧ mI M' (p + 7) F < 1000000000) ∨ (l1 = 7 ∧ mI M' (p + 8) F = ((L : Nat) : Int) ∧ Cod M' O P V F ns L e H 1 ∧ e < L')) : PG M' p O P V (F + 1) (un ns F l1) (uf sf F L) (uf ef F e) L' cnt Bn := by
  obtain ⟨g1, g2, g3, g4, g5, g6, g7⟩ := h
  have un0 : ∀ x, x < F → un ns F l1 x = ns x := fun x hx => by unfold un; rw [if_neg (by omega)]
  have ue0 : ∀ x, x < F → uf ef F e x = ef x := fun x hx => by unfold uf; rw [if_neg (by omega)]
  have us0 : ∀ x, x < F → uf sf F L x = sf x := fun x hx => by unfold uf; rw [if_neg (by omega)]
  have unF : un ns F l1 F = l1 := by unfold un; rw [if_pos rfl]
  have ueF : uf ef F e F = e := by unfold uf; rw [if_pos rfl]
  have usF : uf sf F L F = L := by unfold uf; rw [if_pos rfl]
  have cg : ∀ {s h : Nat}, PC M O P V F ns ef L s h → PC M' O P V (F + 1) (un ns F l1) (uf ef F e) L' s h := fun hc => (hc.cg (M' := M') (fun i hi => (f7 i hi).1) (fun i hi => (f7 i hi).2)).wide (Nat.le_refl _) (Nat.le_succ _) hLL (fun x hx => ⟨un0 x hx, ue0 x hx⟩)
  refine ⟨fun x hx => ?_, ?_, fun j hj => ?_, by rw [f6 12 (by omega) (by omega)]; exact g4, by rw [f6 12 (by omega) (by omega)]; exact g5, by rw [f6 12 (by omega) (by omega)]; exact g6, fun b hb => ?_⟩
  · by_cases y : x = F
    · subst y
      rw [unF, usF, ueF]
      rcases new with ⟨u1, u2, u3⟩ | ⟨u1, u2, u3, u4⟩
      · exact ⟨fun _ => ⟨u2, u3⟩, fun v => absurd (u1.symm.trans v) (by decide)⟩
      · refine ⟨fun v => absurd (u1.symm.trans v) (by decide), fun _ => ⟨u2, ⟨H, u3.wide (Nat.le_refl _) (Nat.le_refl _) (fun y hy => un0 y hy)⟩, u4, fun y hy v => ?_⟩⟩
        rw [ue0 y hy]
        rw [un0 y hy] at v
        exact ((g1 y hy).2 v).2.2.1
    · have hxF : x < F := by omega
      obtain ⟨a1, a2⟩ := g1 x hxF
      rw [un0 x hxF, us0 x hxF, ue0 x hxF, h7 x hxF, h8 x hxF]
      refine ⟨a1, fun v => ?_⟩
      obtain ⟨b1, ⟨Hx, b2⟩, b3, b4⟩ := a2 v
      refine ⟨b1, ⟨Hx, (b2.cg (M' := M') (fun i hi => (f7 i (by omega)).1) (fun i hi => (f7 i (by omega)).2)).wide (Nat.le_refl _) (Nat.le_refl _) (fun y hy => un0 y (by omega))⟩, by omega, fun y hy v => ?_⟩
      rw [ue0 y (by omega)]
      rw [un0 y (by omega)] at v
      exact b4 y hy v
  · rw [h11]
    exact g2.imp (fun y => y) (fun ⟨s, y1, y2⟩ => ⟨s, y1, cg y2⟩)
  · obtain ⟨s, y1, y2⟩ := g3 j hj
    exact ⟨s, by rw [f6 11 (by omega) (by omega)]; exact y1, cg y2⟩
  · obtain ⟨s1, s2, y1, y2, y3, y4⟩ := g7 b hb
    exact ⟨s1, s2, by rw [f6 14 (by omega) (by omega)]; exact y1, cg y2, by rw [f6 15 (by omega) (by omega)]; exact y3, cg y4⟩
theorem tx_name {l1 : Int} (h : TX M z q w T A B D N C n p O P K Ab Be Cm V F ns sf ef c cnt L) (h0 : mI M (q + 1) 3 = 0) (h60 : F < 60) (ok : mOk M') (f : FI (txS q p O P) M M') (hr : ∀ i, i ≤ 9 → mI M' (q + 1 + i) = mI M (q + 1 + i)) (ep : ∀ i, i ≠ 2 → i ≠ 7 → mI M' p i = mI M p i) (e7 : mI M' p 7 = ((F + 1 : Nat) : Int)) (f6 : ∀ i, 9 ≤ i → i ≤ 15 → mI M' (p + i) = mI M (p + i)) (h7 : ∀ i, i < F → mI M' (p + 7) i = mI M (p + 7) i) (h8 : ∀ i, i < F → mI M' (p + 8) i = mI M (p + 8) i) (f7 : ∀ i, i < L → mI M' O i = mI M O i ∧ mI M' P i = mI M P i) (hLL : L ≤ L') (new : (l1 = 4 ∧ 1 ≤ mI M' (p + 7) F ∧ mI M' (p + 7) F < 1000000000) ∨ (l1 = 7 ∧ mI M' (p + 8) F = ((L : Nat) : Int) ∧ Cod M' O P V F ns L e H 1 ∧ e < L')) : TX M' z q w T A B D N C n p O P K Ab Be Cm V (F + 1) (un ns F l1) (uf sf F L) (uf ef F e) c cnt L' := by
  obtain ⟨hP, ⟨c1, c2, c3, c4⟩, x1, x2⟩ := h
  have hA := (hP.words f).1
  have r0 := hr 0 (by omega)
  rw [Nat.add_zero] at r0
  refine ⟨hP.fi ok f, ⟨by rw [ep 3 (by decide) (by decide)]; exact c1, ⟨e7, by omega⟩, ?_, fun j => by rw [show q + 6 = q + 1 + 5 by omega, hr 5 (by omega)]; exact c4 j⟩, by rw [ep 12 (by decide) (by decide)]; exact x1, fun _ => ?_⟩
  · obtain ⟨n1, n2, n3⟩ := c3
    refine ⟨by rw [r0]; exact n1, n2, fun i hi => ?_⟩
    obtain ⟨m1, m2, m3⟩ := n3 i hi
    rw [hA, hr 6 (by omega), hr 7 (by omega), hr 8 (by omega), hr 9 (by omega)]
    refine ⟨m1, ?_, m3⟩
    rcases m2 with u | ⟨u1, u2, u3, u4⟩
    · exact Or.inl u
    · refine Or.inr ⟨u1, u2, by omega, ?_⟩
      unfold un
      rw [if_neg (by omega)]
      exact u4
  · obtain ⟨u, eu, gu⟩ := x2 h0
    exact ⟨u, by rw [f6 12 (by omega) (by omega)]; exact eu, gu.name hLL f7 (ep 11 (by decide) (by decide)) f6 h7 h8 new⟩
/-- where a fault is noted, the tables don't matter -/
theorem TX.any (h : TX M z q w T A B D N C n p O P K Ab Be Cm V F ns sf ef c cnt L) (hL : mI M (q + 1) 3 = 0 → L ≤ L') : TX M z q w T A B D N C n p O P K Ab Be Cm V F ns sf ef c cnt L' := by
  obtain ⟨hP, hC, x1, x2⟩ := h
  refine ⟨hP, hC, x1, fun h0 => ?_⟩
  obtain ⟨u, eu, gu⟩ := x2 h0
  exact ⟨u, eu, gu.longer (hL h0)⟩
theorem s_sn115 {l1 : Int} (h4 : l1 = 4 ∨ l1 = 7) (h : TX M z q w T A B D N C n p O P K Ab Be Cm V (F + 1) (un ns F l1) sf ef c cnt L) (h60 : F < 60) (hn : mI M q 3 = ((nw : Nat) : Int) ∧ nw < n ∧ mI M A nw = 2) (h8 : mI M q 8 = 0 ∨ mI M q 8 = 1) (hp : mI M p 2 = ((L : Nat) : Int)) (ha : mI M (q + 1) 2 = ((a : Nat) : Int)) (han : a ≤ n) (hLa : L ≤ a) (hd : mI M (q + 1) 5 = 0) (hf : trF M0 q p O P Ab0 Be0 Cm0 M Ab Be Cm) : h_TR_settleNamed_115 G (d + 5) q l1 F M (itE M0 z q w T A B D N C n p O P K Ab0 Be0 Cm0) := by
  obtain ⟨⟨np0, np1, -, -⟩, ⟨nO0, nO1, -, -, nOp⟩, nP0, nP1, -, -, nPp⟩ := h.1.ne
  have ap := h.1.apart
  have qp := h.1.2.2.2.2.2.1.2.1
  have ok := h.1.1.1
  obtain ⟨t0, t1, t2, t3, t4, t5⟩ := h.1.2.1
  refine k_TR_settleNamed_115 ok (i32s (by omega) (by omega)) (i32s (by omega) (by omega)) ?_
  rw [t1, hn.1]
  refine ⟨t0, h.1.1.2.1.1, (s_RR_know (v := nw) h.1.1 h.2.1.2.2.1 hn.2.1 hn.2.2 (i32s (by omega) (by omega)) (i32s (by omega) (by omega)) h8 (Or.inr ⟨h4, by omega, by omega, ?_⟩)).mono (fun M84 k => ?_)⟩
  · unfold un
    rw [if_pos (by omega)]
  obtain ⟨k1, k2, k3, k4, c', k5, -⟩ := k
  have f84 : FI (txS q p O P) M M84 := k2.mono (fun b y => Or.inl (by have y' : q + 1 ≤ b ∧ b ≤ q + 1 + 9 := y; omega))
  have nb : ∀ b, (b < q + 1 ∨ q + 1 + 9 < b) → mI M84 b = mI M b := fun b hb => k2.2.2.2.2.2.2 b (fun y => by have y' : q + 1 ≤ b ∧ b ≤ q + 1 + 9 := y; omega)
  have h84 : TX M84 z q w T A B D N C n p O P K Ab Be Cm V (F + 1) (un ns F l1) sf ef c' cnt L := by
    obtain ⟨hP, ⟨c1, c2, c3, c4⟩, hX⟩ := h
    refine ⟨hP.fi k1.1 f84, ⟨by rw [nb p (by omega)]; exact c1, by rw [nb p (by omega)]; exact c2, k5, fun j => by rw [show q + 6 = q + 1 + 5 by omega, k4 5 (by omega) (by omega)]; exact c4 j⟩, hX.cg (fun y => by rw [k3 3 (by decide)]; exact y) (fun i _ => by rw [nb p (by omega)]) (fun i _ _ => nb _ (by omega)) (fun i _ => ⟨by rw [nb O (by omega)], by rw [nb P (by omega)]⟩)⟩
  exact ⟨k1.1, Ab, Be, Cm, V, F + 1, un ns F l1, sf, ef, c', cnt, L, a, h84, by rw [nb p (by omega)]; exact hp, by rw [k3 2 (by decide)]; exact ha, han, hLa, by rw [k3 5 (by decide)]; exact hd, hf.trans (trF.fi f84)⟩
end TRH
end
section
/-! The class's reader of texts: settleNamed. -/
section TRI
variable {G : mG} {d z q w T A B D N C n p O P K Ab Be Cm V F c s s' L L' cnt Bn a d0 V1 F1 nw k e s9 Ab0 Be0 Cm0 Ab1 Be1 Cm1 : Nat} {M0 M M' M1 M2 : mM} {ns ns' ns1 : Nat → Int} {sf ef sf' ef' : Nat → Nat} {H : Nat → Nat} {S R : Nat → Prop}
theorem wu_tr (f : FA (fun x => x = q + 1 ∨ mcS (q + 11) Ab Be x) (fun x => x = q + 11) M M') (g : (Ab1 = Ab ∨ mZ M ≤ Ab1) ∧ (Be1 = Be ∨ mZ M ≤ Be1)) (r : mS M' + 4 * Cm = mS M + 4 * Cm1 ∧ 32 * mZ M' + Cm ≤ 32 * mZ M + Cm1) : trF M q p O P Ab Be Cm M' Ab1 Be1 Cm1 :=
  ⟨f.mono (fun x _ y => y.elim (fun u => Or.inl (Or.inl ⟨by omega, by omega⟩)) (fun u => Or.inr u)) (fun _ _ y => y), g, r⟩
/-- the places of the program's tables -/
theorem TX.tab (h : TX M z q w T A B D N C n p O P K Ab Be Cm V F ns sf ef c cnt L) : mK M p = 6 ∧ (mR M p 4 = p + 3 ∧ mR M p 5 = p + 4 ∧ mR M p 6 = p + 5 ∧ mR M p 8 = p + 6 ∧ mR M p 9 = p + 7 ∧ mR M p 10 = p + 8 ∧ mR M p 13 = p + 9 ∧ mR M p 14 = p + 10 ∧ mR M p 15 = p + 11 ∧ mR M p 16 = p + 12 ∧ mR M p 17 = p + 13 ∧ mR M p 18 = p + 14 ∧ mR M p 19 = p + 15) ∧ (mK M (p + 3) = 30 ∧ mK M (p + 4) = 30 ∧ mK M (p + 5) = 30 ∧ mK M (p + 6) = 30 ∧ mK M (p + 7) = 30 ∧ mK M (p + 8) = 30 ∧ mK M (p + 9) = 30 ∧ mK M (p + 10) = 30 ∧ mK M (p + 11) = 30 ∧ mK M (p + 12) = 30 ∧ mK M (p + 13) = 30 ∧ mK M (p + 14) = 30 ∧ mK M (p + 15) = 30) ∧ (mN M (p + 3) = 12 ∧ mN M (p + 4) = 12 ∧ mN M (p + 5) = 12 ∧ mN M (p + 6) = 60 ∧ mN M (p + 7) = 60 ∧ mN M (p + 8) = 60 ∧ mN M (p + 9) = 60 ∧ mN M (p + 10) = 60 ∧ mN M (p + 11) = 60 ∧ mN M (p + 12) = 61 ∧ mN M (p + 13) = 480 ∧ mN M (p + 14) = 480 ∧ mN M (p + 15) = 480) := ⟨h.1.1.2.2.2.2.1.1, h.1.1.2.2.2.2.1.2.2.2.2.2.2⟩
theorem s_sn_fin (h : TX M z q w T A B D N C n p O P K Ab Be Cm V F ns sf ef c cnt L) (h0 : mI M (q + 1) 3 = 0) (h60 : F < 60) (hb : 1 ≤ mI M Be 0 ∧ mI M Be 0 < 1000000000) (hn : mI M q 3 = ((nw : Nat) : Int) ∧ nw < n ∧ mI M A nw = 2) (h8 : mI M q 8 = 0 ∨ mI M q 8 = 1) (hLa : L ≤ a) (ha : mI M (q + 1) 2 = ((a : Nat) : Int)) (han : a ≤ n) (hd : mI M (q + 1) 5 = 0) (hf : trF M0 q p O P Ab0 Be0 Cm0 M Ab Be Cm) (o46 : mOk M') (fx : FI (txS q p O P) M M') (ip : ∀ i, mI M' p i = if i = 2 then ((L : Nat) : Int) else if i = 7 then (F : Int) + 1 else mI M p i) (i7 : ∀ i, mI M' (p + 7) i = if i = F then mI M Be 0 else mI M (p + 7) i) (i8 : ∀ i, mI M' (p + 8) i = if i = F then ((L : Nat) : Int) else mI M (p + 8) i) (nb : ∀ b, b ≠ p → b ≠ p + 6 → b ≠ p + 7 → b ≠ p + 8 → mI M' b = mI M b) : h_TR_settleNamed_115 G (d + 5) q 4 F M' (itE M0 z q w T A B D N C n p O P K Ab0 Be0 Cm0) := by
  have nO : mI M' O = mI M O ∧ mI M' P = mI M P ∧ (∀ i, i ≤ 10 → mI M' (q + i) = mI M (q + i)) ∧ (∀ i, 9 ≤ i → i ≤ 15 → mI M' (p + i) = mI M (p + i)) := by
    have ap := h.1.apart
    have qp := h.1.2.2.2.2.2.1.2.1
    clear h h0 hb hn h8 ha hd hf ip i7 i8 fx
    exact ⟨nb O (by omega) (by omega) (by omega) (by omega), nb P (by omega) (by omega) (by omega) (by omega), fun i hi => nb _ (by omega) (by omega) (by omega) (by omega), fun i h9 h15 => nb _ (by omega) (by omega) (by omega) (by omega)⟩
  have h46 := tx_name (l1 := 4) (e := 0) (H := fun _ => 0) (L' := L) h h0 h60 o46 fx (fun i hi => by rw [show q + 1 + i = q + (1 + i) by omega]; exact nO.2.2.1 _ (by omega)) (fun i y2 y7 => by rw [ip, if_neg y2, if_neg y7]) (by rw [ip, if_neg (by decide), if_pos rfl]; rfl) nO.2.2.2 (fun i hi => by rw [i7, if_neg (Nat.ne_of_lt hi)]) (fun i hi => by rw [i8, if_neg (Nat.ne_of_lt hi)]) (fun i _ => ⟨by rw [nO.1], by rw [nO.2.1]⟩) (Nat.le_refl _) (Or.inl ⟨rfl, by rw [i7, if_pos rfl]; exact hb⟩)
  have wA := (h.1.words fx).1
  have n0 := nO.2.2.1 0 (by omega)
  have n1 := nO.2.2.1 1 (by omega)
  rw [Nat.add_zero] at n0
  exact s_sn115 (Or.inl rfl) h46 h60 ⟨by rw [n0]; exact hn.1, hn.2.1, by rw [wA]; exact hn.2.2⟩ (by rw [n0]; exact h8) (by rw [ip, if_pos rfl]) (by rw [n1]; exact ha) han hLa (by rw [n1]; exact hd) (hf.trans (trF.fi fx))
theorem s_sn_const (h : TX M z q w T A B D N C n p O P K Ab Be Cm V F ns sf ef c cnt L) (h0 : mI M (q + 1) 3 = 0) (h60 : F < 60) (hb : 1 ≤ mI M Be 0 ∧ mI M Be 0 < 1000000000) (hn : mI M q 3 = ((nw : Nat) : Int) ∧ nw < n ∧ mI M A nw = 2) (h8 : mI M q 8 = 0 ∨ mI M q 8 = 1) (h21 : mI M (q + 21) 0 = ((L : Nat) : Int)) (hLa : L ≤ a) (ha : mI M (q + 1) 2 = ((a : Nat) : Int)) (han : a ≤ n) (hd : mI M (q + 1) 5 = 0) (hf : trF M0 q p O P Ab0 Be0 Cm0 M Ab Be Cm) : mK M q = 3 ∧ mK M (mR M q 2) = 6 ∧ i32 ((mI M (mR M q 2) 7) + 1) ∧ ∀ M16, M16 = mUI M (mR M q 2) 7 ((mI M (mR M q 2) 7) + 1) → mK M16 (mR M16 q 2) = 6 ∧ mK M16 (mR M16 q 5) = 30 ∧ ((0 : Int) ≤ 0 ∧ 0 < (mN M16 (mR M16 q 5) : Int)) ∧ mK M16 (mR M16 (mR M16 q 2) 10) = 30 ∧ ((0 : Int) ≤ mI M (mR M q 2) 7 ∧ mI M (mR M q 2) 7 < (mN M16 (mR M16 (mR M16 q 2) 10) : Int)) ∧ ∀ M23, M23 = mUI M16 (mR M16 (mR M16 q 2) 10) (Int.toNat (mI M (mR M q 2) 7)) (mI M16 (mR M16 q 5) 0) → (mK M23 (mR M23 q 2) = 6 ∧ mK M23 (mR M23 q 1) = 5 ∧ mK M23 (mR M23 (mR M23 q 1) 6) = 30 ∧ ((0 : Int) ≤ 0 ∧ 0 < (mN M23 (mR M23 (mR M23 q 1) 6) : Int)) ∧ mK M23 (mR M23 (mR M23 q 2) 8) = 30 ∧ ((0 : Int) ≤ mI M (mR M q 2) 7 ∧ mI M (mR M q 2) 7 < (mN M23 (mR M23 (mR M23 q 2) 8) : Int)) ∧ ∀ M33, M33 = mUI M23 (mR M23 (mR M23 q 2) 8) (Int.toNat (mI M (mR M q 2) 7)) (mI M23 (mR M23 (mR M23 q 1) 6) 0) → mK M33 (mR M33 q 2) = 6 ∧ mK M33 (mR M33 q 1) = 5 ∧ mK M33 (mR M33 (mR M33 q 1) 7) = 30 ∧ ((0 : Int) ≤ 0 ∧ 0 < (mN M33 (mR M33 (mR M33 q 1) 7) : Int)) ∧ mK M33 (mR M33 (mR M33 q 2) 9) = 30 ∧ ((0 : Int) ≤ mI M (mR M q 2) 7 ∧ mI M (mR M q 2) 7 < (mN M33 (mR M33 (mR M33 q 2) 9) : Int)) ∧ ∀ M41, M41 = mUI M33 (mR M33 (mR M33 q 2) 9) (Int.toNat (mI M (mR M q 2) 7)) (mI M33 (mR M33 (mR M33 q 1) 7) 0) → mK M41 (mR M41 q 5) = 30 ∧ ((0 : Int) ≤ 0 ∧ 0 < (mN M41 (mR M41 q 5) : Int)) ∧ mK M41 (mR M41 q 2) = 6 ∧ ∀ M46, M46 = mUI M41 (mR M41 q 2) 2 (mI M41 (mR M41 q 5) 0) → h_TR_settleNamed_115 G (d + 5) q 4 (mI M (mR M q 2) 7) M46 (itE M0 z q w T A B D N C n p O P K Ab0 Be0 Cm0)) := by
  obtain ⟨⟨np0, np1, np21, -⟩, ⟨nO0, nO1, -, -, nOp⟩, nP0, nP1, -, -, nPp⟩ := h.1.ne
  have ap := h.1.apart
  have qp := h.1.2.2.2.2.2.1.2.1
  have ok := h.1.1.1
  obtain ⟨t0, t1, t2, t3, t4, t5⟩ := h.1.2.1
  obtain ⟨s1, s2, s3, s4⟩ := h.1.2.2.1
  obtain ⟨k6, ⟨-, -, -, p8, p9, p10, -⟩, ⟨-, -, -, kp6, kp7, kp8, -⟩, ⟨-, -, -, np6, np7, np8, -⟩⟩ := h.tab
  obtain ⟨⟨c1, c2⟩, ⟨f7, -⟩, -⟩ := h.2.1
  obtain ⟨km, ⟨-, -, m6, m7, -⟩, ⟨-, -, kA, kB, -⟩, ⟨-, nA, nB, -⟩, -, ⟨sA, sB, sne, sz⟩, -, ⟨c64, -⟩⟩ := h.1.2.2.2.1
  have hN : n ≤ 16384 := by have := h.1.1.2.2.2.1.2.2.1; have := h.1.1.2.2.2.1.1.2.2.2.2.2.2.1; omega
  have Bp : Be ≠ p ∧ Be ≠ p + 8 ∧ Be ≠ p + 6 ∧ Be ≠ p + 7 ∧ Ab ≠ p ∧ Ab ≠ p + 8 := by
    have := ap.1
    unfold Mpr at this
    clear h hf hn
    omega
  have q21p : q + 21 ≠ p ∧ q + 21 ≠ p + 8 ∧ q + 21 ≠ p + 6 ∧ q + 21 ≠ p + 7 := by clear h hf hn; omega
  rw [t3, f7, Int.toNat_natCast]
  refine ⟨t0, k6, ⟨by omega, by omega⟩, fun M16 e16 => ?_⟩
  have f16 : FI (fun b => b = p) M M16 := by rw [e16]; exact FI.ui rfl
  rw [f16.1, f16.2.1, f16.2.2.1, t3, t4, p10, np8, s3, f16.2.2.2.2.2.2 _ q21p.1, h21]
  refine ⟨k6, s1, ⟨by omega, by omega⟩, kp8, by omega, fun M23 e23 => ?_⟩
  have f23 : FI (fun b => b = p + 8) M16 M23 := by rw [e23]; exact FI.ui rfl
  rw [f23.1, f23.2.1, f23.2.2.1, f16.1, f16.2.1, f16.2.2.1, t2, t3, p8, np6, m6, nA]
  refine ⟨k6, km, kA, ⟨by omega, by omega⟩, kp6, by omega, fun M33 e33 => ?_⟩
  have f33 : FI (fun b => b = p + 6) M23 M33 := by rw [e33]; exact FI.ui rfl
  rw [f33.1, f33.2.1, f33.2.2.1, f23.1, f23.2.1, f23.2.2.1, f16.1, f16.2.1, f16.2.2.1, t2, t3, p9, np7, m7, nB]
  refine ⟨k6, km, kB, ⟨by omega, by omega⟩, kp7, by omega, fun M41 e41 => ?_⟩
  have f41 : FI (fun b => b = p + 7) M33 M41 := by rw [e41]; exact FI.ui rfl
  have i21 : mI M41 (q + 21) 0 = ((L : Nat) : Int) := by rw [f41.2.2.2.2.2.2 _ q21p.2.2.2, f33.2.2.2.2.2.2 _ q21p.2.2.1, f23.2.2.2.2.2.2 _ q21p.2.1, f16.2.2.2.2.2.2 _ q21p.1]; exact h21
  rw [f41.1, f41.2.1, f41.2.2.1, f33.1, f33.2.1, f33.2.2.1, f23.1, f23.2.1, f23.2.2.1, f16.1, f16.2.1, f16.2.2.1, t3, t4, s3, i21]
  refine ⟨s1, ⟨by omega, by omega⟩, k6, fun M46 e46 => ?_⟩
  have f46 : FI (fun b => b = p) M41 M46 := by rw [e46]; exact FI.ui rfl
  have iB : mI M33 Be 0 = mI M Be 0 := by rw [f33.2.2.2.2.2.2 _ Bp.2.2.1, f23.2.2.2.2.2.2 _ Bp.2.1, f16.2.2.2.2.2.2 _ Bp.1]
  have ff : FI (fun b => b = p ∨ b = p + 6 ∨ b = p + 7 ∨ b = p + 8) M M46 := ((((f16.mono (fun _ y => Or.inl y)).trans (f23.mono (fun _ y => Or.inr (Or.inr (Or.inr y))))).trans (f33.mono (fun _ y => Or.inr (Or.inl y)))).trans (f41.mono (fun _ y => Or.inr (Or.inr (Or.inl y))))).trans (f46.mono (fun _ y => Or.inl y))
  have o16 : mOk M16 := by rw [e16]; exact mOk_UI ok ⟨by omega, by omega⟩
  have o23 : mOk M23 := by rw [e23]; exact mOk_UI o16 ⟨by omega, by omega⟩
  have o33 : mOk M33 := by rw [e33]; exact mOk_UI o23 (o23 _ _).1
  have o41 : mOk M41 := by rw [e41]; exact mOk_UI o33 (o33 _ _).1
  have o46 : mOk M46 := by rw [e46]; exact mOk_UI o41 ⟨by omega, by omega⟩
  have ip : ∀ i, mI M46 p i = if i = 2 then ((L : Nat) : Int) else if i = 7 then (F : Int) + 1 else mI M p i := fun i => by
    rw [mI_ui p i e46]
    by_cases y2 : i = 2
    · rw [if_pos ⟨rfl, y2⟩, if_pos y2]
    · rw [if_neg (fun u => y2 u.2), if_neg y2, f41.2.2.2.2.2.2 p (by omega), f33.2.2.2.2.2.2 p (by omega), f23.2.2.2.2.2.2 p (by omega), mI_ui p i e16]
      by_cases y7 : i = 7
      · rw [if_pos ⟨rfl, y7⟩, if_pos y7]
      · rw [if_neg (fun u => y7 u.2), if_neg y7]
  have i7 : ∀ i, mI M46 (p + 7) i = if i = F then mI M Be 0 else mI M (p + 7) i := fun i => by
    rw [f46.2.2.2.2.2.2 _ (by omega), mI_ui _ i e41, iB]
    by_cases y : i = F
    · rw [if_pos ⟨rfl, y⟩, if_pos y]
    · rw [if_neg (fun u => y u.2), if_neg y, f33.2.2.2.2.2.2 _ (by omega), f23.2.2.2.2.2.2 _ (by omega), f16.2.2.2.2.2.2 _ (by omega)]
  have i8 : ∀ i, mI M46 (p + 8) i = if i = F then ((L : Nat) : Int) else mI M (p + 8) i := fun i => by
    rw [f46.2.2.2.2.2.2 _ (by omega), f41.2.2.2.2.2.2 _ (by omega), f33.2.2.2.2.2.2 _ (by omega), mI_ui _ i e23]
    by_cases y : i = F
    · rw [if_pos ⟨rfl, y⟩, if_pos y]
    · rw [if_neg (fun u => y u.2), if_neg y, f16.2.2.2.2.2.2 _ (by omega)]
  have nb : ∀ b, b ≠ p → b ≠ p + 6 → b ≠ p + 7 → b ≠ p + 8 → mI M46 b = mI M b := fun b b1 b2 b3 b4 => ff.2.2.2.2.2.2 b (fun y => by
    have y' : b = p ∨ b = p + 6 ∨ b = p + 7 ∨ b = p + 8 := y
    omega)
  have fx : FI (txS q p O P) M M46 := ff.mono (fun b y => by
    have y' : b = p ∨ b = p + 6 ∨ b = p + 7 ∨ b = p + 8 := y
    show (q ≤ b ∧ b ≤ q + 10) ∨ b = q + 21 ∨ b = q + 22 ∨ b = p ∨ (p + 3 ≤ b ∧ b ≤ p + 15) ∨ b = O ∨ b = P
    omega)
  exact s_sn_fin h h0 h60 hb hn h8 hLa ha han hd hf o46 fx ip i7 i8 nb
end TRI
end
section
/-! The class's reader of texts: settleNamed, the whole; settleVar. -/
section TRJ
variable {G : mG} {d z q w T A B D N C n p O P K Ab Be Cm V F c s s' L L' cnt Bn a d0 V1 F1 nw k e s9 Ab0 Be0 Cm0 Ab1 Be1 Cm1 : Nat} {M0 M M' M1 M2 : mM} {ns ns' ns1 : Nat → Int} {sf ef sf' ef' : Nat → Nat} {H : Nat → Nat} {S R : Nat → Prop}
theorem s_sn_formula (h : TX M z q w T A B D N C n p O P K Ab Be Cm V F ns sf ef c cnt L) (h0 : mI M (q + 1) 3 = 0) (h60 : F < 60) (cd : Cod M O P V F ns L e H 1) (hn : mI M q 3 = ((nw : Nat) : Int) ∧ nw < n ∧ mI M A nw = 2) (h8 : mI M q 8 = 0 ∨ mI M q 8 = 1) (hp : mI M p 2 = ((e + 1 : Nat) : Int)) (hLa : e + 1 ≤ a) (ha : mI M (q + 1) 2 = ((a : Nat) : Int)) (han : a ≤ n) (hd : mI M (q + 1) 5 = 0) (e50 : M1 = mUI M p 7 ((F : Int) + 1)) (e57 : M2 = mUI M1 (p + 8) F ((L : Nat) : Int)) : h_TR_settleNamed_115 G (d + 5) q 7 F M2 (itE M z q w T A B D N C n p O P K Ab Be Cm) := by
  have f50 : FI (fun b => b = p) M M1 := by rw [e50]; exact FI.ui rfl
  have f57 : FI (fun b => b = p + 8) M1 M2 := by rw [e57]; exact FI.ui rfl
  have ff : FI (fun b => b = p ∨ b = p + 8) M M2 := (f50.mono (fun _ y => Or.inl y)).trans (f57.mono (fun _ y => Or.inr y))
  have hLe : L ≤ e := cd.2.2.2.2.2
  have hN : n ≤ 16384 := by have := h.1.1.2.2.2.1.2.2.1; have := h.1.1.2.2.2.1.1.2.2.2.2.2.2.1; omega
  have o57 : mOk M2 := by rw [e57]; exact mOk_UI (by rw [e50]; exact mOk_UI h.1.1.1 ⟨by omega, by omega⟩) ⟨by omega, by omega⟩
  have ip : ∀ i, mI M2 p i = if i = 7 then (F : Int) + 1 else mI M p i := fun i => by
    rw [f57.2.2.2.2.2.2 p (by omega), mI_ui p i e50]
    by_cases y7 : i = 7
    · rw [if_pos ⟨rfl, y7⟩, if_pos y7]
    · rw [if_neg (fun u => y7 u.2), if_neg y7]
  have i8 : ∀ i, mI M2 (p + 8) i = if i = F then ((L : Nat) : Int) else mI M (p + 8) i := fun i => by
    rw [mI_ui _ i e57]
    by_cases y : i = F
    · rw [if_pos ⟨rfl, y⟩, if_pos y]
    · rw [if_neg (fun u => y u.2), if_neg y, f50.2.2.2.2.2.2 _ (by omega)]
  have nb : ∀ b, b ≠ p → b ≠ p + 8 → mI M2 b = mI M b := fun b b1 b2 => ff.2.2.2.2.2.2 b (fun y => y.elim b1 b2)
  have fx : FI (txS q p O P) M M2 := ff.mono (fun b y => by
    have y' : b = p ∨ b = p + 8 := y
    show (q ≤ b ∧ b ≤ q + 10) ∨ b = q + 21 ∨ b = q + 22 ∨ b = p ∨ (p + 3 ≤ b ∧ b ≤ p + 15) ∨ b = O ∨ b = P
    omega)
  have nO : mI M2 O = mI M O ∧ mI M2 P = mI M P ∧ (∀ i, i ≤ 10 → mI M2 (q + i) = mI M (q + i)) ∧ (∀ i, 9 ≤ i → i ≤ 15 → mI M2 (p + i) = mI M (p + i)) := by
    have ap := h.1.apart
    have qp := h.1.2.2.2.2.2.1.2.1
    clear h h0 hn h8 ha hd ip i8 fx f50 f57 ff cd
    exact ⟨nb O (by omega) (by omega), nb P (by omega) (by omega), fun i hi => nb _ (by omega) (by omega), fun i h9 h15 => nb _ (by omega) (by omega)⟩
  have h57 := tx_name (l1 := 7) (e := e) (H := H) (L' := e + 1) h h0 h60 o57 fx (fun i hi => by rw [show q + 1 + i = q + (1 + i) by omega]; exact nO.2.2.1 _ (by omega)) (fun i y2 y7 => by rw [ip, if_neg y7]) (by rw [ip, if_pos rfl]; rfl) nO.2.2.2 (fun i hi => by rw [nb (p + 7) (by omega) (by omega)]) (fun i hi => by rw [i8, if_neg (Nat.ne_of_lt hi)]) (fun i _ => ⟨by rw [nO.1], by rw [nO.2.1]⟩) (Nat.le_succ_of_le hLe) (Or.inr ⟨rfl, by rw [i8, if_pos rfl], cd.cg (fun i _ => by rw [nO.1]) (fun i _ => by rw [nO.2.1]), Nat.lt_succ_self _⟩)
  have wA := (h.1.words fx).1
  have n0 := nO.2.2.1 0 (by omega)
  have n1 := nO.2.2.1 1 (by omega)
  rw [Nat.add_zero] at n0
  exact s_sn115 (Or.inr rfl) h57 h60 ⟨by rw [n0]; exact hn.1, hn.2.1, by rw [wA]; exact hn.2.2⟩ (by rw [n0]; exact h8) (by rw [ip, if_neg (by decide)]; exact hp) (by rw [n1]; exact ha) han hLa (by rw [n1]; exact hd) (trF.fi fx)
theorem nsc7 (ns : Nat → Int) (y : Nat) : nsc ns y ≠ 7 := by unfold nsc; split <;> decide
theorem nsc4 {ns : Nat → Int} {y : Nat} (h : nsc ns y = 4) : ns y = 4 := by
  unfold nsc at h
  split at h
  · assumption
  · exact absurd h (by decide)
theorem s_TR_settleNamed {l1 : Int} (hF : FMs G) (h4 : l1 = 4 ∨ l1 = 7) (h : TX M z q w T A B D N C n p O P K Ab Be Cm V F ns sf ef c cnt L) (y60 : 60 ≤ F → mI M (q + 1) 3 ≠ 0) (cd : Cod M O P (vco l1 V) F (nco l1 ns) L e H 1) (hp : mI M p 2 = ((e + 1 : Nat) : Int)) (ha : mI M (q + 1) 2 = ((a : Nat) : Int)) (han : a ≤ n) (hLa : e + 1 ≤ a) (hd : mI M (q + 1) 5 = 0) (hn : mI M q 3 = ((nw : Nat) : Int) ∧ nw < n ∧ mI M A nw = 2) (h8 : mI M q 8 = 0 ∨ mI M q 8 = 1) (h21 : mI M (q + 21) 0 = ((L : Nat) : Int)) : Cv G y_TR_settleNamed (d + 6) [vr q, vi l1] M (itE M z q w T A B D N C n p O P K Ab Be Cm) := by
  have hLe : L ≤ e := cd.2.2.2.2.2
  obtain ⟨t0, t1, t2, t3, t4, t5⟩ := h.1.2.1
  obtain ⟨s1, s2, s3, s4⟩ := h.1.2.2.1
  obtain ⟨k6, ⟨-, -, -, p8, p9, p10, -⟩, ⟨-, -, -, kp6, kp7, kp8, -⟩, ⟨-, -, -, np6, np7, np8, -⟩⟩ := h.tab
  have f7 := h.2.1.2.1.1
  have hN : n ≤ 16384 := by have := h.1.1.2.2.2.1.2.2.1; have := h.1.1.2.2.2.1.1.2.2.2.2.2.2.1; omega
  have q21p : q + 21 ≠ p ∧ q + 21 ≠ p + 8 := by have := h.1.2.2.2.2.2.1.2.1; omega
  refine k_TR_settleNamed h.1.1.1 (i32s (by omega) (by omega)) ?_
  refine ⟨t0, by rw [t1]; exact h.1.1.2.1.1, fun y0 => ⟨fun y4 => ?_, fun y4 => ?_⟩, fun y0 => ?_⟩
  · rw [t1] at y0
    have h60 : F < 60 := by
      by_cases u : 60 ≤ F
      · exact absurd y0 (y60 u)
      · omega
    subst y4
    have cd' : Cod M O P 0 F (nsc ns) L e H 1 := cd
    refine (s_TR_worksOut (k := 0) hF (by omega) (i32s (by omega) (by omega)) h y0 h21 cd' (fun y _ => nsc7 ns y) (fun y _ u => nsc4 u) (by omega) hp (Nat.lt_succ_self _) (by omega)).mono (fun x9 M8 k => ?_)
    obtain ⟨Ab1, Be1, Cm1, h1, fa, hab, hr, ⟨q0, q1, q21, qp, qO, qP, qA⟩, k8⟩ := k
    have tr := wu_tr (p := p) (O := O) (P := P) fa hab hr
    have i9 : i32 x9 := m_b32 (k8.imp (fun u => u) (fun u => u.1))
    have a8 : mI M8 (q + 1) 2 = ((a : Nat) : Int) := by rw [q1 2 (by decide) (by decide)]; exact ha
    have d8 : mI M8 (q + 1) 5 = 0 := by rw [q1 5 (by decide) (by decide)]; exact hd
    refine ⟨i9, h1.1.1.1, fun y => ?_, fun y => ?_⟩
    · exact ⟨Ab1, Be1, Cm1, V, F, ns, sf, ef, c, cnt, e + 1, a, h1.any (fun _ => Nat.le_succ_of_le hLe), by rw [qp]; exact hp, a8, han, hLa, d8, tr⟩
    · obtain ⟨-, u2, u3⟩ := k8.resolve_left y
      obtain ⟨v1, v2, v3, v4⟩ := s_sn_const (G := G) (d := d) h1 u2 h60 u3 ⟨by rw [q0]; exact hn.1, hn.2.1, by rw [qA]; exact hn.2.2⟩ (by rw [q0]; exact h8) (by rw [q21]; exact h21) (show L ≤ a by omega) a8 han d8 tr
      refine ⟨v1, v2, v3, fun M16 e16 => ?_⟩
      obtain ⟨w1, w2, w3, w4, w5, w6⟩ := v4 M16 e16
      exact ⟨w1, w2, w3, w4, w5, fun M23 e23 => ⟨fun _ => w6 M23 e23, fun u => absurd rfl u⟩⟩
  · have y7 : l1 = 7 := h4.resolve_left y4
    subst y7
    rw [t1] at y0
    have h60 : F < 60 := by
      by_cases u : 60 ≤ F
      · exact absurd y0 (y60 u)
      · omega
    have cd' : Cod M O P V F ns L e H 1 := cd
    rw [t3, f7, Int.toNat_natCast]
    refine ⟨k6, ⟨by omega, by omega⟩, fun M50 e50 => ?_⟩
    have f50 : FI (fun b => b = p) M M50 := by rw [e50]; exact FI.ui rfl
    rw [f50.1, f50.2.1, f50.2.2.1, t3, t4, p10, np8, s3, f50.2.2.2.2.2.2 _ q21p.1, h21]
    refine ⟨k6, s1, ⟨by omega, by omega⟩, kp8, by omega, fun M57 e57 => ⟨fun u => absurd u (by decide), fun _ => ?_⟩⟩
    exact s_sn_formula h y0 h60 cd' hn h8 hp hLa ha han hd e50 e57
  · exact ⟨Ab, Be, Cm, V, F, ns, sf, ef, c, cnt, e + 1, a, h.any (fun _ => Nat.le_succ_of_le hLe), hp, ha, han, hLa, hd, trF.refl⟩
/-- a var that is being settled -/
def svS (M0 : mM) (z q w T A B D N C n p O P K Ab0 Be0 Cm0 V F : Nat) (ns : Nat → Int) (sf ef : Nat → Nat) (c cnt L s a nw : Nat) (M : mM) : Prop := ∃ Ab Be Cm, TX M z q w T A B D N C n p O P K Ab Be Cm V F ns sf ef c cnt L ∧ trF M0 q p O P Ab0 Be0 Cm0 M Ab Be Cm ∧ vrS M q A n p L s a nw V ∧ (mI M q 8 = 0 → rvR M q O P F ns L s 0 ∧ rvR M q O P F ns L s 1) ∧ (mI M q 7 ≠ 0 → rvR M q O P F ns L s 2)
theorem svS.pl (h : svS M0 z q w T A B D N C n p O P K Ab0 Be0 Cm0 V F ns sf ef c cnt L s a nw M) : mOk M ∧ mK M q = 3 ∧ mR M q 0 = q + 1 ∧ mK M (q + 1) = 4 ∧ mR M q 1 = q + 11 ∧ mK M (q + 11) = 5 ∧ mK M (mR M (q + 11) 6) = 30 ∧ (0 : Int) < mN M (mR M (q + 11) 6) ∧ mR M q 6 = q + 22 ∧ mK M (q + 22) = 30 ∧ mN M (q + 22) = 3 := by
  obtain ⟨Ab, Be, Cm, h1, -⟩ := h
  obtain ⟨t0, t1, t2, t3, t4, t5⟩ := h1.1.2.1
  obtain ⟨s1, s2, s3, s4⟩ := h1.1.2.2.1
  have hk := h1.1.2.2.2.1
  have m6 := hk.2.1.2.2.1
  have n6 := hk.2.2.2.1.2.1
  have c6 := hk.2.2.2.2.2.2.2.1
  exact ⟨h1.1.1.1, t0, t1, h1.1.1.2.1.1, t2, hk.1, by rw [m6]; exact hk.2.2.1.2.2.1, by rw [m6, n6]; omega, t5, s2, s4⟩
theorem s_sv_note {x y : Int} (hx : i32 x) (hy : i32 y) (h : svS M0 z q w T A B D N C n p O P K Ab0 Be0 Cm0 V F ns sf ef c cnt L s a nw M) : Cv G y_RR_note d [vr (q + 1), vi x, vi y] M (fun M' => mOk M' ∧ svS M0 z q w T A B D N C n p O P K Ab0 Be0 Cm0 V F ns sf ef c cnt L s a nw M') := by
  obtain ⟨Ab, Be, Cm, h1, tr, ⟨v1, v2, v3, v4, v5, v6, v7, v8, v9, v10, v11, v12⟩, r8, r7⟩ := h
  obtain ⟨⟨np0, np1, -, -⟩, ⟨nO0, nO1, -, -, -⟩, nP0, nP1, -, -, -⟩ := h1.1.ne
  obtain ⟨q01, q10, q210, q211, -⟩ := q_ne q
  refine (s_tx_note0 hx hy h1).mono (fun M' k => ?_)
  obtain ⟨o1, h2, x2, r2, b2⟩ := k
  have e0 := b2 q q01
  have cg : ∀ {k : Nat}, rvR M q O P F ns L s k → rvR M' q O P F ns L s k := fun hr => hr.cg (by rw [b2 _ q211]) (fun i _ => ⟨by rw [b2 O nO1], by rw [b2 P nP1]⟩) (Nat.le_refl _)
  refine ⟨o1, Ab, Be, Cm, h2, tr.trans (trF.fi x2.1), ⟨by rw [b2 p np1]; exact v1, v2, v3, by rw [r2 2 (by decide) (by decide)]; exact v4, v5, by rw [r2 5 (by decide) (by decide)]; exact v6, by rw [e0]; exact v7, v8, by rw [(h1.1.words x2.1).1]; exact v9, by rw [e0]; exact v10, by rw [e0]; exact v11, fun u => x2.2.2.1 (v12 u)⟩, fun u => ?_, fun u => ?_⟩
  · rw [e0] at u
    exact ⟨cg (r8 u).1, cg (r8 u).2⟩
  · rw [e0] at u
    exact cg (r7 u)
theorem s_sv_works {l2 : Int} (hF : FMs G) (hk : k < 3) (i2 : i32 l2) (h : svS M0 z q w T A B D N C n p O P K Ab0 Be0 Cm0 V F ns sf ef c cnt L s a nw M) (h0 : mI M (q + 1) 3 = 0) (hr : rvR M q O P F ns L s k) : Ci G y_TR_worksOut (d + 5) [vr q, vi k, vi l2] M (fun x M' => i32 x ∧ mOk M' ∧ svS M0 z q w T A B D N C n p O P K Ab0 Be0 Cm0 V F ns sf ef c cnt L s a nw M' ∧ mI M' q = mI M q) := by
  obtain ⟨Ab, Be, Cm, h1, tr, ⟨v1, v2, v3, v4, v5, v6, v7, v8, v9, v10, v11, v12⟩, r8, r7⟩ := h
  obtain ⟨sr, er, Hr, u1, u2, u3, u4⟩ := hr
  refine (s_TR_worksOut hF hk i2 h1 h0 u1 u2 (fun y _ => nsc7 ns y) (fun y _ u => nsc4 u) (by omega) v1 u4 (by omega)).mono (fun x M' k => ?_)
  obtain ⟨Ab1, Be1, Cm1, h2, fa, hab, hrm, ⟨q0, q1, q21, qp, qO, qP, qA⟩, k8⟩ := k
  have i9 : i32 x := m_b32 (k8.imp (fun u => u) (fun u => u.1))
  have cg : ∀ {k : Nat}, rvR M q O P F ns L s k → rvR M' q O P F ns L s k := fun hr => hr.cg (by rw [q21]) (fun i _ => ⟨by rw [qO], by rw [qP]⟩) (Nat.le_refl _)
  have v12' : 12 ≤ V → mI M' (q + 1) 3 ≠ 0 := fun u => absurd h0 (v12 u)
  refine ⟨i9, h2.1.1.1, ⟨Ab1, Be1, Cm1, h2, tr.trans (wu_tr fa hab hrm), ⟨by rw [qp]; exact v1, v2, v3, by rw [q1 2 (by decide) (by decide)]; exact v4, v5, by rw [q1 5 (by decide) (by decide)]; exact v6, by rw [q0]; exact v7, v8, by rw [qA]; exact v9, by rw [q0]; exact v10, by rw [q0]; exact v11, v12'⟩, fun u => ?_, fun u => ?_⟩, q0⟩
  · rw [q0] at u
    exact ⟨cg (r8 u).1, cg (r8 u).2⟩
  · rw [q0] at u
    exact cg (r7 u)
end TRJ
end
