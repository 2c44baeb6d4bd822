/-! The class's reader of texts: names, and the rules of items. -/
section TRC
variable {G : mG} {d z q w T A B D N C n p O P K Ab Be Cm V F c s L L' cnt Bn a d0 V1 F1 : Nat} {M0 M M' M1 M2 : mM} {ns ns' ns1 : Nat → Int} {sf ef sf' ef' : Nat → Nat} {H : Nat → Nat} {S R : Nat → Prop}
def nmF (M0 : mM) (q : Nat) (M : mM) : Prop := (∀ i, i ≠ 2 → i ≠ 3 → i ≠ 4 → mI M (q + 1) i = mI M0 (q + 1) i) ∧ (∀ i, i ≠ 3 → mI M q i = mI M0 q i) ∧ (∀ b, b ≠ q → b ≠ q + 1 → mI M b = mI M0 b)
theorem nmF.refl : nmF M q M := ⟨fun _ _ _ _ => rfl, fun _ _ => rfl, fun _ _ _ => rfl⟩
theorem nmF.trans (f : nmF M0 q M1) (g : nmF M1 q M2) : nmF M0 q M2 := ⟨fun i i2 i3 i4 => by rw [g.1 i i2 i3 i4, f.1 i i2 i3 i4], fun i i3 => by rw [g.2.1 i i3, f.2.1 i i3], fun b b1 b2 => by rw [g.2.2 b b1 b2, f.2.2 b b1 b2]⟩
/-- what readName comes to -/
def rnmQ (M0 : mM) (z q w T A B D N C n p O P K Ab Be Cm V F : Nat) (ns : Nat → Int) (sf ef : Nat → Nat) (c cnt L a : Nat) (l1 : Int) (x : Int) (M' : mM) : Prop := TX M' z q w T A B D N C n p O P K Ab Be Cm V F ns sf ef c cnt L ∧ txF M0 q p O P L M' ∧ nmF M0 q M' ∧ (l1 ≠ 0 → mI M' (q + 1) 3 ≠ 0) ∧ ((x = 0 ∧ ∃ a' : Nat, mI M' (q + 1) 2 = a' ∧ a' ≤ n) ∨ (x = 1 ∧ mI M' (q + 1) 2 = ((a + 2 : Nat) : Int) ∧ a + 2 ≤ n ∧ mI M' q 3 = ((a + 1 : Nat) : Int) ∧ mI M' A (a + 1) = 2))
theorem s_rn19 {l1 : Int} (h : TX M z q w T A B D N C n p O P K Ab Be Cm V F ns sf ef c cnt L) (f0 : txF M0 q p O P L M) (g0 : nmF M0 q M) (hY : l1 ≠ 0 → mI M (q + 1) 3 ≠ 0) (ha : mI M (q + 1) 2 = a) (han : a < n) : h_TR_readName_19 G (d + 1) q M (rnmQ M0 z q w T A B D N C n p O P K Ab Be Cm V F ns sf ef c cnt L a l1) := by
  have ap := h.1.apart
  have ok := h.1.1.1
  obtain ⟨t0, t1, t2, t3, t4, t5⟩ := h.1.2.1
  have k4 := h.1.1.2.1.1
  have hN : n ≤ 16384 := by have := h.1.1.2.2.2.1.2.2.1; have := h.1.1.2.2.2.1.1.2.2.2.2.2.2.1; omega
  refine k_TR_readName_19 ok ?_
  rw [t1, ha]
  refine ⟨t0, k4, ⟨by omega, by omega⟩, fun M15 e15 => ?_⟩
  obtain ⟨h15, x15, g15⟩ := tx_ui h ⟨by omega, by omega⟩ e15 (Or.inr (Or.inr (Or.inr (Or.inl ⟨rfl, Or.inl rfl⟩))))
  have a15 : mI M15 (q + 1) 2 = ((a + 1 : Nat) : Int) := by rw [g15, if_pos ⟨rfl, rfl⟩]; omega
  rw [h15.1.2.1.2.1, a15]
  refine ⟨h15.1.1.2.1.1, fun M18 e18 => ?_⟩
  obtain ⟨h18, x18, g18⟩ := tx_ui h15 ⟨by omega, by omega⟩ e18 (Or.inl rfl)
  have a18 : mI M18 (q + 1) 2 = ((a + 1 : Nat) : Int) := by rw [g18, if_neg (by omega)]; exact a15
  have n18 : nmF M0 q M18 := g0.trans ⟨fun i i2 i3 i4 => by rw [g18, if_neg (by omega), g15, if_neg (by omega)], fun i i3 => by rw [g18, if_neg (by omega), g15, if_neg (by omega)], fun b b1 b2 => by
    funext i
    rw [g18, if_neg (by omega), g15, if_neg (by omega)]⟩
  have q18 : mI M18 q 3 = ((a + 1 : Nat) : Int) := by rw [g18, if_pos ⟨rfl, rfl⟩]
  have f18 := (f0.trans x15).trans x18
  have Y18 : l1 ≠ 0 → mI M18 (q + 1) 3 ≠ 0 := fun y => by rw [g18, if_neg (by omega), g15, if_neg (by omega)]; exact hY y
  rw [h18.1.2.1.2.1]
  refine ⟨h18.1.1.2.1.1, (s_tx_accept (i32s (by omega) (by omega)) (by omega) h18 a18 (by omega)).mono (fun v M21 k => ?_)⟩
  obtain ⟨v32, o21, vv, h21, x21, k1, k2, k3⟩ := k
  have n21 : nmF M0 q M21 := n18.trans ⟨fun i i2 _ _ => k2 i i2, fun i _ => by rw [k3 q (by omega)], fun b _ b2 => k3 b b2⟩
  have f21 := f18.trans x21
  have Y21 : l1 ≠ 0 → mI M21 (q + 1) 3 ≠ 0 := fun y => by rw [k2 3 (by decide)]; exact Y18 y
  refine ⟨v32, o21, fun y => ?_, fun y => ?_⟩
  · have e := (k1.resolve_left (fun u => by have := u.1; omega)).2
    rw [e]
    exact ⟨h18, f18, n18, Y18, Or.inl ⟨rfl, a + 1, a18, by omega⟩⟩
  · obtain ⟨e1, e2, e3, e4⟩ := k1.resolve_right (fun u => y u.1)
    have A21 : mI M21 A (a + 1) = 2 := by rw [(h18.1.words x21.1).1]; exact e2
    have q21 : mI M21 q 3 = ((a + 1 : Nat) : Int) := by rw [k3 q (by omega)]; exact q18
    rw [h21.1.2.1.2.1, q21]
    refine ⟨h21.1.2.1.1, h21.1.1.2.1.1, (s_RR_find h21.1.1 h21.2.1.2.2.1.nk e4 A21).mono (fun x29 M28 kk => ?_)⟩
    obtain ⟨e28, hx⟩ := kk
    subst e28
    have c72 := h21.2.1.2.2.1.2.1
    have i29 : i32 x29 := by rcases hx with u | ⟨i, u, hi⟩ <;> rw [u] <;> exact i32s (by omega) (by omega)
    obtain ⟨⟨w1, ⟨p0, p3, p4, p5⟩, -, ⟨kA, kB, kD⟩, ⟨cA, cB, cD⟩, w6, w7, w8, -⟩, -⟩ := id h21.1.1.2.2.2.1
    rw [h21.1.2.1.2.1, h21.1.1.2.2.1.1, p4, cB, q21, Int.toNat_natCast]
    have nN := h21.1.1.2.2.2.1.2.2.1
    refine ⟨i29, o21, fun _ => ⟨h21, f21, n21, Y21, Or.inr ⟨rfl, e3, by omega, q21, A21⟩⟩, fun _ => ⟨h21.1.2.1.1, h21.1.1.2.1.1, w1, kB, by omega, (s_tx_note (i32s (by omega) (by omega)) (by omega) (o21 _ _).1 h21).mono (fun M44 kk => ?_)⟩⟩
    obtain ⟨o44, h44, x44, u3, u4, u5⟩ := kk
    have n44 : nmF M0 q M44 := n21.trans ⟨fun i _ i3 i4 => u4 i i3 i4, fun i _ => by rw [u5 q (by omega)], fun b _ b2 => u5 b b2⟩
    exact ⟨o44, h44, f21.trans x44, n44, fun _ => u3, Or.inr ⟨rfl, by rw [u4 2 (by decide) (by decide)]; exact e3, by omega, by rw [u5 q (by omega)]; exact q21, by rw [(h21.1.words x44.1).1]; exact A21⟩⟩
theorem s_TR_readName {l1 : Int} (i1 : i32 l1) (h : TX M z q w T A B D N C n p O P K Ab Be Cm V F ns sf ef c cnt L) (ha : mI M (q + 1) 2 = a) (han : a < n) : Ci G y_TR_readName (d + 2) [vr q, vi l1] M (rnmQ M z q w T A B D N C n p O P K Ab Be Cm V F ns sf ef c cnt L a l1) := by
  have ok := h.1.1.1
  obtain ⟨t0, t1, t2, t3, t4, t5⟩ := h.1.2.1
  have k4 := h.1.1.2.1.1
  refine k_TR_readName ok i1 ⟨fun y => s_rn19 h txF.refl nmF.refl (fun u => absurd y u) ha han, fun y => ?_⟩
  rw [t1]
  refine ⟨t0, k4, (s_RR_here h.1.1 ha (by omega)).mono (fun x6 M5 k => ?_)⟩
  obtain ⟨e5, -, x0, x1⟩ := k
  subst e5
  refine ⟨i32s (by omega) (by omega), ok, k4, (s_tx_note (i32s (by omega) (by omega)) (by omega) (i32s (by omega) (by omega)) h).mono (fun M9 kk => ?_)⟩
  obtain ⟨o9, h9, x9, u3, u4, u5⟩ := kk
  exact ⟨o9, s_rn19 h9 x9 ⟨fun i _ i3 i4 => u4 i i3 i4, fun i _ => by rw [u5 q (by omega)], fun b _ b2 => u5 b b2⟩ (fun _ => u3) (by rw [u4 2 (by decide) (by decide)]; exact ha) han⟩
/-- a rule of an item -/
def irQ (M : mM) (z q w T A B D N C n p O P K Ab Be Cm V F : Nat) (ns : Nat → Int) (sf ef : Nat → Nat) (c cnt L s V1 F1 : Nat) (ns1 : Nat → Int) (a k : Nat) (x : Int) (M' : mM) : Prop := TX M' z q w T A B D N C n p O P K Ab Be Cm V F ns sf ef c cnt L ∧ txF M q p O P s M' ∧ (mI M' (q + 1) 6 = mI M (q + 1) 6 ∧ mI M' q = mI M q ∧ (∀ i, mI M' (q + 21) i = if i = k then (s : Int) else mI M (q + 21) i)) ∧ ((x = 0 ∧ ∃ a' : Nat, mI M' (q + 1) 2 = a' ∧ a' ≤ n) ∨ (x = 1 ∧ ∃ e H a', Cod M' O P V1 F1 ns1 s e H 1 ∧ mI M' p 2 = ((e + 1 : Nat) : Int) ∧ mI M' (q + 1) 2 = ((a' : Nat) : Int) ∧ a ≤ a' ∧ a' ≤ n ∧ e ≤ a' ∧ mI M' (q + 1) 5 = mI M (q + 1) 5))
theorem s_TR_readItemRule {k : Nat} {l2 : Int} (hk : k < 3) (i2 : i32 l2) (h : TX M z q w T A B D N C n p O P K Ab Be Cm V F ns sf ef c cnt L) (ha : mI M (q + 1) 2 = a) (han : a ≤ n) (hs : mI M p 2 = s) (hLs : L ≤ s) (hsa : s ≤ a) (hd : mI M (q + 1) 5 = d0) (hd4 : d0 ≤ 40) (nk : NK M (q + 1) A n V1 F1 ns1 c) : Ci G y_TR_readItemRule (d + 5) [vr q, vi k, vi l2] M (irQ M z q w T A B D N C n p O P K Ab Be Cm V F ns sf ef c cnt L s V1 F1 ns1 a k) := by
  have ap := h.1.apart
  have qp := h.1.2.2.2.2.2.1.2.1
  have ok := h.1.1.1
  obtain ⟨t0, t1, t2, t3, t4, t5⟩ := h.1.2.1
  obtain ⟨s1, s2, s3, s4⟩ := h.1.2.2.1
  have hN : n ≤ 16384 := by have := h.1.1.2.2.2.1.2.2.1; have := h.1.1.2.2.2.1.1.2.2.2.2.2.2.1; omega
  refine k_TR_readItemRule ok (i32s (by omega) (by omega)) i2 ?_
  rw [t3, t4, s3, Int.toNat_natCast, hs]
  refine ⟨t0, h.1.1.2.2.2.2.1.1, s1, by omega, fun M5 e5 => ?_⟩
  obtain ⟨h5, x5, g5⟩ := tx_ui h ⟨by omega, by omega⟩ e5 (Or.inr (Or.inl rfl))
  have a5 : mI M5 (q + 1) 2 = a := by rw [g5, if_neg (by omega)]; exact ha
  rw [h5.1.2.1.2.1]
  refine ⟨h5.1.1.2.1.1, (s_RR_here h5.1.1 a5 han).mono (fun x9 M8 kk => ?_)⟩
  obtain ⟨e8, -, x0, x1⟩ := kk
  subst e8
  rw [h5.1.2.1.2.2.2.2.2, h5.1.2.2.1.2.2.2]
  refine ⟨i32s (by omega) (by omega), h5.1.1.1, h5.1.2.2.1.2.1, by omega, fun M13 e13 => ?_⟩
  obtain ⟨h13, x13, g13⟩ := tx_ui h5 (i32s (by omega) (by omega)) e13 (Or.inr (Or.inr (Or.inl rfl)))
  have gg : ∀ b i, b ≠ q + 21 → b ≠ q + 22 → mI M13 b i = mI M b i := fun b i b1 b2 => by rw [g13, if_neg (by omega), g5, if_neg (by omega)]
  have ff : ∀ b, b ≠ q + 21 → b ≠ q + 22 → mI M13 b = mI M b := fun b b1 b2 => by funext i; exact gg b i b1 b2
  have nk13 : NK M13 (q + 1) A n V1 F1 ns1 c := by
    unfold NK at nk ⊢
    rw [ff A (fun u => (h.1.2.2.2.2.2.1.2.2 A (by omega)).1 (by omega)) (fun u => (h.1.2.2.2.2.2.1.2.2 A (by omega)).1 (by omega)), gg (q + 1) 19 (by omega) (by omega), gg (q + 1) 6 (by omega) (by omega), ff (q + 1 + 6) (by omega) (by omega), ff (q + 1 + 7) (by omega) (by omega), ff (q + 1 + 8) (by omega) (by omega), ff (q + 1 + 9) (by omega) (by omega)]
    exact nk
  have f13 : txF M q p O P s M13 := by
    have u := x5.trans x13
    exact ⟨u.1, u.2.1, u.2.2.1, u.2.2.2.1, u.2.2.2.2.1, u.2.2.2.2.2.1, fun i _ => ⟨gg O i (by omega) (by omega), gg P i (by omega) (by omega)⟩⟩
  rw [h13.1.2.1.2.1]
  refine ⟨h13.1.2.1.1, h13.1.1.2.1.1, (s_tx_rule i2 (i32s (by omega) (by omega)) h13 (by rw [gg _ _ (by omega) (by omega)]; exact ha) han (by rw [gg p 2 (by omega) (by omega)]; exact hs) hLs hsa (by rw [gg _ _ (by omega) (by omega)]; exact hd) hd4 nk13).mono (fun x18 M17 kk => ?_)⟩
  obtain ⟨i18, o17, r1, r2, ⟨r3, r4, r5, r6⟩, r7⟩ := kk
  have T21 : ∀ i, mI M17 (q + 21) i = if i = k then (s : Int) else mI M (q + 21) i := fun i => by
    rw [r5, g13, if_neg (by omega), g5]
    by_cases y : i = k
    · rw [if_pos ⟨rfl, y⟩, if_pos y]
    · rw [if_neg (fun u => y u.2), if_neg y]
  have b6 : mI M17 (q + 1) 6 = mI M (q + 1) 6 := by rw [r3, gg _ _ (by omega) (by omega)]
  have bq : mI M17 q = mI M q := by rw [r4, ff _ (by omega) (by omega)]
  refine ⟨i18, o17, fun y => ?_, fun y => ?_⟩
  · obtain ⟨-, a', u1, u2⟩ := r7.resolve_right (fun u => by have := u.1; omega)
    exact ⟨r1, f13.trans r2, ⟨b6, bq, T21⟩, Or.inl ⟨rfl, a', u1, u2⟩⟩
  · obtain ⟨-, e, H, a', u1, u2, u3, u4, u5, u6, u7, u8, u9, u10⟩ := r7.resolve_left (fun u => y u.1)
    rw [r1.1.2.1.2.2.2.1]
    refine ⟨r1.1.2.1.1, r1.1.1.2.2.2.2.1.1, (s_tx_add (i32s (by omega) (by omega)) (i32s (by omega) (by omega)) r1 u5 (by omega) (by omega)).mono (fun v M24 kk => ?_)⟩
    obtain ⟨v1, v2, v3, v4, v5, v6, v7, v8⟩ := kk
    refine ⟨v1, v2, v3, (f13.trans r2).trans (v4.less (by omega)), ⟨by rw [v8 (q + 1) (by omega) (by omega) (by omega)]; exact b6, by rw [v8 q (by omega) (by omega) (by omega)]; exact bq, fun i => by rw [v8 (q + 21) (by omega) (by omega) (by omega)]; exact T21 i⟩, Or.inr ⟨rfl, e, H, a', ⟨fun pc h0 h1 => ?_, u2, u3, u4, by rw [v6, if_pos rfl], by omega⟩, v5, by rw [v8 (q + 1) (by omega) (by omega) (by omega)]; exact u6, u7, u8, u9, by rw [v8 (q + 1) (by omega) (by omega) (by omega), u10, gg _ _ (by omega) (by omega)]⟩⟩
    rw [v6, v7, if_neg (by omega), if_neg (by omega)]
    exact u1 pc h0 h1
end TRC
