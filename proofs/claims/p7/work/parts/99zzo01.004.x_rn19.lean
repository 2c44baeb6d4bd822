section
section
variable {G : mG} {d z q w T A B D N C n p O P K Ab Be Cm V F c s L L' cnt Bn a d0 V1 F1 nw : Nat} {M0 M M' M1 M2 : mM} {ns ns' ns1 : Nat → Int} {sf ef sf' ef' : Nat → Nat} {H : Nat → Nat} {S R : Nat → Prop} {W pl nq : Nat → Int} {sm : Nat → Nat → Prop} {nms : List nm9} {ft : Int × Int} {zz zr : List Int}
theorem x_rn19 {l1 : Int} {Mc : mM} (hcc : CT Mc (q + 1) p nms → CT M (q + 1) p nms) (h : TX M z q w T A B D N C n p O P K Ab Be Cm V F ns sf ef c cnt L) (f0 : txF M0 q p O P L M) (g0 : nmF M0 q M) (hY : l1 ≠ 0 → mI M (q + 1) 3 ≠ 0) (ha : mI M (q + 1) 2 = a) (han : a < n) (wt : WTq M T A B D n W pl nq sm) (hF : FT M (q + 1) ft) (hR : Rc W [50] 0 (1 :: zr) (a + 1)) : h_TR_readName_19 G (d + 1) q M (fun x M' => rnmQ M0 z q w T A B D N C n p O P K Ab Be Cm V F ns sf ef c cnt L a l1 x M' ∧ rnV W pl sm Mc q p c a nms ft zr x M') := by
  have ap := h.1.apart
  have ok := h.1.1.1
  obtain ⟨t0, t1, t2, t3, t4, t5⟩ := h.1.2.1
  have k4 := h.1.1.2.1.1
  have hN : n ≤ 16384 := by have := h.1.1.2.2.2.1.2.2.1; have := h.1.1.2.2.2.1.1.2.2.2.2.2.2.1; omega
  refine k_TR_readName_19 ok ?_
  rw [t1, ha]
  refine ⟨t0, k4, ⟨by omega, by omega⟩, fun M15 e15 => ?_⟩
  obtain ⟨h15, x15, g15⟩ := tx_ui h ⟨by omega, by omega⟩ e15 (Or.inr (Or.inr (Or.inr (Or.inl ⟨rfl, Or.inl rfl⟩))))
  have a15 : mI M15 (q + 1) 2 = ((a + 1 : Nat) : Int) := by rw [g15, if_pos ⟨rfl, rfl⟩]; omega
  rw [h15.1.2.1.2.1, a15]
  refine ⟨h15.1.1.2.1.1, fun M18 e18 => ?_⟩
  obtain ⟨h18, x18, g18⟩ := tx_ui h15 ⟨by omega, by omega⟩ e18 (Or.inl rfl)
  have a18 : mI M18 (q + 1) 2 = ((a + 1 : Nat) : Int) := by rw [g18, if_neg (by omega)]; exact a15
  have n18 : nmF M0 q M18 := g0.trans ⟨fun i i2 i3 i4 => by rw [g18, if_neg (by omega), g15, if_neg (by omega)], fun i i3 => by rw [g18, if_neg (by omega), g15, if_neg (by omega)], fun b b1 b2 => by
    funext i
    rw [g18, if_neg (by omega), g15, if_neg (by omega)]⟩
  have q18 : mI M18 q 3 = ((a + 1 : Nat) : Int) := by rw [g18, if_pos ⟨rfl, rfl⟩]
  have f18 := (f0.trans x15).trans x18
  have Y18 : l1 ≠ 0 → mI M18 (q + 1) 3 ≠ 0 := fun y => by rw [g18, if_neg (by omega), g15, if_neg (by omega)]; exact hY y
  rw [h18.1.2.1.2.1]
  refine ⟨h18.1.1.2.1.1, (x_tx_accept (x := 2) (i32s (by omega) (by omega)) (by omega) h18 a18 (by omega)).mono (fun v M21 k => ?_)⟩
  obtain ⟨v32, o21, vv, h21, x21, k1, k2, k3, k4'⟩ := k
  have wt18 : WTq M18 T A B D n W pl nq sm := wt.fi h.1 (x15.1.trans x18.1)
  have F18 : FT M18 (q + 1) ft := hF.same (by rw [g18, if_neg (by omega), g15, if_neg (by omega)]) (by rw [g18, if_neg (by omega), g15, if_neg (by omega)])
  have n21 : nmF M0 q M21 := n18.trans ⟨fun i i2 _ _ => k2 i i2, fun i _ => by rw [k3 q (by omega)], fun b _ b2 => k3 b b2⟩
  have f21 := f18.trans x21
  have Y21 : l1 ≠ 0 → mI M21 (q + 1) 3 ≠ 0 := fun y => by rw [k2 3 (by decide)]; exact Y18 y
  refine ⟨v32, o21, fun y => ?_, fun y => ?_⟩
  · have e := (k1.resolve_left (fun u => by have := u.1; omega)).2
    rw [e]
    exact ⟨⟨h18, f18, n18, Y18, Or.inl ⟨rfl, a + 1, a18, by omega⟩⟩, a + 1, a18, Or.inl ⟨rfl, rf_t hR (fun u => k4' y ((wt18.is (by omega) (by omega) (by omega)).mpr u)) (by decide)⟩⟩
  · obtain ⟨e1, e2, e3, e4⟩ := k1.resolve_right (fun u => y u.1)
    have w1 : W (a + 1) = 1 := (wt18.is (by omega) (by omega) (by omega)).mp e2
    have rc2 := rc_t hR w1 (by decide)
    have wt21 : WTq M21 T A B D n W pl nq sm := wt18.fi h18.1 x21.1
    have F21 : FT M21 (q + 1) ft := F18.same (k2 3 (by decide)) (k2 4 (by decide))
    have ct21 : CT Mc (q + 1) p nms → CT M21 (q + 1) p nms := fun ct => (((hcc ct).tx x15.2).tx x18.2).tx x21.2
    have hw21 : ∀ i, i < c → ∃ v : Nat, mI M21 (q + 1 + 6) i = v ∧ v < n ∧ mI M21 A v = 2 := fun i hi => (h21.2.1.2.2.1.2.2 i hi).1
    have A21 : mI M21 A (a + 1) = 2 := by rw [(h18.1.words x21.1).1]; exact e2
    have q21 : mI M21 q 3 = ((a + 1 : Nat) : Int) := by rw [k3 q (by omega)]; exact q18
    rw [h21.1.2.1.2.1, q21]
    refine ⟨h21.1.2.1.1, h21.1.1.2.1.1, (x_RR_find h21.1.1 h21.2.1.2.2.1.nk e4 A21).mono (fun x29 M28 kk => ?_)⟩
    obtain ⟨e28, hx⟩ := kk
    subst e28
    have c72 := h21.2.1.2.2.1.2.1
    have i29 : i32 x29 := by rcases hx with ⟨u, -⟩ | ⟨i, u, hi, -⟩ <;> rw [u] <;> exact i32s (by omega) (by omega)
    obtain ⟨⟨w1', ⟨p0, p3, p4, p5⟩, -, ⟨kA, kB, kD⟩, ⟨cA, cB, cD⟩, w6, w7, w8, -⟩, -⟩ := id h21.1.1.2.2.2.1
    rw [h21.1.2.1.2.1, h21.1.1.2.2.1.1, p4, cB, q21, Int.toNat_natCast]
    have nN := h21.1.1.2.2.2.1.2.2.1
    refine ⟨i29, o21, fun yn => ⟨⟨h21, f21, n21, Y21, Or.inr ⟨rfl, e3, by omega, q21, A21⟩⟩, a + 2, e3, Or.inr ⟨rfl, rfl, w1, rc2, (0, 0), F21.none, fun ct hl => ?_⟩⟩, fun yn => ⟨h21.1.2.1.1, h21.1.1.2.1.1, w1', kB, by omega, (x_tx_note (x := 2) (i32s (by omega) (by omega)) (by omega) (o21 _ _).1 h21).mono (fun M44 kk => ?_)⟩⟩
    · have nn : nmn M28 (q + 1) T B D c (a + 1) := by
        rcases hx with ⟨-, u⟩ | ⟨i, u, hi, -⟩
        · exact u
        · exact absurd yn (by omega)
      rcases (ct21 ct).fnd wt21 (by rw [hl]; exact hw21) e4 w1 with ⟨-, q2⟩ | ⟨i, e, q1, -, -⟩
      · exact ⟨fun _ => rfl, fun z => absurd q2 z⟩
      · rw [hl] at q1; exact absurd q1.2.1 (nn i q1.1)
    obtain ⟨o44, h44, x44, u3, u4, u5, u6⟩ := kk
    have n44 : nmF M0 q M44 := n21.trans ⟨fun i _ i3 i4 => u4 i i3 i4, fun i _ => by rw [u5 q (by omega)], fun b _ b2 => u5 b b2⟩
    have eB : mI M28 B (a + 1) = pl (a + 1) := (wt21.1 (a + 1) (by omega)).2.2
    refine ⟨o44, ⟨h44, f21.trans x44, n44, fun _ => u3, Or.inr ⟨rfl, by rw [u4 2 (by decide) (by decide)]; exact e3, by omega, by rw [u5 q (by omega)]; exact q21, by rw [(h21.1.words x44.1).1]; exact A21⟩⟩, a + 2, by rw [u4 2 (by decide) (by decide)]; exact e3, Or.inr ⟨rfl, rfl, w1, rc2, (2, pl (a + 1)), by rw [← eB]; exact u6 ft F21, fun ct hl => ?_⟩⟩
    rcases (ct21 ct).fnd wt21 (by rw [hl]; exact hw21) e4 w1 with ⟨q1, -⟩ | ⟨i, e, -, -, q3, -⟩
    · rw [hl] at q1
      rcases hx with ⟨u, -⟩ | ⟨i, u, hi⟩
      · exact absurd u (by omega)
      · exact absurd hi.2.1 (q1 i hi.1)
    · exact ⟨fun z => absurd (q3.symm.trans z) (by simp), fun _ => rfl⟩
end
end
