section
section
variable {G : mG} {d z r w T A B D N C n p O P K k a s L V F d0 c : Nat} {M0 M M' M1 M2 M110 M126 M133 : mM} {H H' : Nat → Nat} {ns : Nat → Int} {wt : Int}
theorem x_RR_takeAsk (h : RB M z r w T A B D N C n p O P K) (g : RG M r p O P n s V F ns d0 H L k a 0) (han : a < n) (hat : 0 < k → lvl (mI M (r + 1) (k - 1)) = 0) : Ci G y_RR_takeAsk (d + 1) [vr r] M (fun x M' => sgQ M z r w T A B D N C n p O P K s V F ns d0 H L k a x M' ∧ akE M r p O P B k (skk M r k) L a x M') := by
  have rm := g.room
  obtain ⟨oO, oP, op, e1, e2, e3⟩ := h.off
  have hwN := h.2.2.2.1.2.2.1
  have hN := h.2.2.2.1.1.2.2.2.2.2.2.1
  have hK := h.2.2.2.2.2.2
  have cd : cdp 33 = 1 := rfl
  have ck : ckk 33 = 0 := rfl
  obtain ⟨⟨g1, g2, g3, g4⟩, -, -, gc, ⟨gd, gd4⟩, -, -, -, -, gL, gt⟩ := id g
  have u0 : uw 0 = 1 := rfl
  refine k_RR_takeAsk h.1 ⟨h.2.1.1, fun y => ⟨⟨h, FI.refl, fun _ _ _ _ _ _ => rfl, fun _ _ _ => rfl, fun _ _ => rfl, fun _ _ => ⟨rfl, rfl⟩, Or.inl ⟨rfl, rfl⟩⟩, Or.inl ⟨rfl, by omega⟩⟩, fun y => ⟨⟨by omega, by omega⟩, fun M8 e8 => ?_⟩⟩
  have d40 : d0 + sdp M r k < 40 := by omega
  obtain ⟨h8, f8, r8, n8⟩ := rb_fld h ⟨by omega, by omega⟩ e8
  refine (x_RR_popKind (c := skk M r k) h8 (by rw [r8, if_neg (by decide), gc]; omega) (by omega)).mono (fun x11 M10 q => ?_)
  obtain ⟨⟨hx, hx2⟩, h10, f10, r10⟩ := q
  have hx3 : x11 = mI M (r + 5) (skk M r k) := by rw [n8 (r + 5) (by omega)] at hx2; exact hx2 (gt _)
  have n10 : ∀ b, b ≠ r → mI M10 b = mI M b := fun b hb => by rw [f10.2.2.2.2.2.2 b hb, n8 b hb]
  have R10 : ∀ i, mI M10 r i = if i = 14 then ((skk M r k : Nat) : Int) else if i = 5 then ((d0 + sdp M r k + 1 : Nat) : Int) else mI M r i := fun i => by
    rw [r10]
    by_cases y14 : i = 14
    · rw [if_pos y14, if_pos y14]
    · rw [if_neg y14, if_neg y14, r8]
      by_cases y5 : i = 5
      · rw [if_pos y5, if_pos y5, gd]
        omega
      · rw [if_neg y5, if_neg y5]
  have F10 : FI (rdS r p O P) M M10 := f8.trans (f10.mono (fun b q => Or.inl ⟨by omega, by omega⟩))
  refine ⟨i32s (by omega) (by omega), h10.1, fun v14 e14 => ⟨h10.2.1.1, (s_RR_here (a := a) h10 (by rw [R10, if_neg (by decide), if_neg (by decide)]; exact g1) (by omega)).mono (fun x21 M20 q => ?_)⟩⟩
  obtain ⟨e20, x21v, x0, x1⟩ := q
  subst e20
  have b14 : v14 = 0 ∨ v14 = 1 := by rw [e14]; split <;> omega
  obtain ⟨-, -, ⟨-, rp1⟩, -, hPK, -⟩ := id h10
  rw [rp1]
  refine ⟨i32s (by omega) (by omega), h10.1, h10.2.1.1, hPK.1, (s_Pr_add (n := L) (i32s (by omega) (by omega)) (i32s (by omega) (by omega)) h10.1 hPK (by rw [n10 p (by first | exact op | exact off0 op | exact off9 op (by decide) | exact off4 op | exact fun q => e1 q.symm | exact fun q => e2 q.symm | omega)]; exact g4) (by omega)).mono (fun x26 M25 q => ?_)⟩
  obtain ⟨ex, o25, f25, p25, q25, u25⟩ := q
  have f25' : FI (rdS r p O P) M20 M25 := f25.mono (fun b q => Or.inr q)
  have h25 := h10.fi o25 f25'
  have Y : ∀ b, r ≤ b → b ≤ r + 9 → mI M25 b = mI M20 b := fun b y1 y2 => f25.2.2.2.2.2.2 b (fun q => by
    have q' : b = p ∨ b = O ∨ b = P := q
    first | exact off3 op oO oP (by assumption) (by assumption) q' | omega)
  refine ⟨⟨by omega, by omega⟩, o25, h25.2.1.1, (s_RR_push (k := k) (a := a) (i32s (by omega) (by omega)) (i32s (by omega) (by omega)) ⟨by omega, by omega⟩ h25 (by rw [Y r (by omega) (by omega), R10, if_neg (by decide), if_neg (by decide)]; exact g2) (by omega) (by rw [Y r (by omega) (by omega), R10, if_neg (by decide), if_neg (by decide)]; exact g1) (by omega)).mono (fun M29 q => ?_)⟩
  obtain ⟨h29, f29, r29, t1, t2, t3, t4⟩ := q
  have Z : ∀ b, (b < r ∨ r + 4 < b) → mI M29 b = mI M25 b := fun b hb => f29.2.2.2.2.2.2 b (fun q => by have q' : r ≤ b ∧ b ≤ r + 4 := q; omega)
  have f29' : FI (rdS r p O P) M25 M29 := f29.mono (fun b q => Or.inl (by have q' : r ≤ b ∧ b ≤ r + 4 := q; omega))
  have e12 : mI M29 r 12 = (k : Int) + 1 := by rw [r29, if_neg (by decide), if_neg (by decide), if_pos rfl]
  obtain ⟨-, ⟨k0', ⟨-, -, -, q11, -⟩, ⟨-, -, -, kk4, -⟩, ⟨-, -, -, nn4, -⟩⟩, -⟩ := id h29
  rw [q11, nn4, e12, show ((k : Int) + 1 - 1).toNat = k by first | rfl | omega]
  refine ⟨h29.1, k0', kk4, by omega, fun M35 e35 => ?_⟩
  obtain ⟨h35, f35, g35, n35⟩ := rb_tab h29 (i := 4) (by omega) (by omega) (i32s (by omega) (by omega)) e35
  have W : ∀ b, (b < r ∨ r + 4 < b) → mI M35 b = mI M25 b := fun b hb => by rw [n35 b (by omega), Z b hb]
  have S35 : ∀ i, i ≠ 2 → i ≠ 5 → i ≠ 7 → i ≠ 12 → i ≠ 14 → mI M35 r i = mI M r i := fun i i2 i5 i7 i12 i14 => by rw [n35 r (by omega), r29, if_neg i2, if_neg i7, if_neg i12, Y r (by omega) (by omega), R10, if_neg i14, if_neg i5]
  have hB : mI M20 B = mI M B := n10 B (fun q => h.2.2.2.2.2.1.2.2 B (by omega) (by omega))
  refine ⟨⟨h35, ((F10.trans f25').trans f29').trans f35, fun i i2 i5 i7 i12 i14 => by rw [n35 r (by omega), r29, if_neg i2, if_neg i7, if_neg i12, Y r (by omega) (by omega), R10, if_neg i14, if_neg i5], fun i i6 i9 => by rw [W (r + i) (by omega), Y (r + i) (by omega) (by omega), n10 (r + i) (by omega)], fun i i2 => by rw [W p (by first | exact op | exact off0 op | exact off9 op (by decide) | exact off4 op | exact fun q => e1 q.symm | exact fun q => e2 q.symm | omega), p25, if_neg i2, n10 p (by first | exact op | exact off0 op | exact off9 op (by decide) | exact off4 op | exact fun q => e1 q.symm | exact fun q => e2 q.symm | omega)], fun i hi => ⟨by rw [W O (by first | exact oO | exact off0 oO | exact off9 oO (by decide) | exact off4 oO | exact e1 | exact e3 | omega), q25, if_neg (by omega), n10 O (by first | exact oO | exact off0 oO | exact off9 oO (by decide) | exact off4 oO | exact e1 | exact e3 | omega)], by rw [W P (by first | exact oP | exact off0 oP | exact off9 oP (by decide) | exact off4 oP | exact e2 | exact fun q => e3 q.symm | omega), u25, if_neg (by omega), n10 P (by first | exact oP | exact off0 oP | exact off9 oP (by decide) | exact off4 oP | exact e2 | exact fun q => e3 q.symm | omega)]⟩, Or.inr ⟨rfl, ?_⟩⟩, Or.inr ⟨rfl, by omega, ⟨⟨by rw [n35 r (by omega)]; exact e12, by rw [n35 r (by omega), r29, if_neg (by decide), if_neg (by decide), if_neg (by decide), Y r (by omega) (by omega), R10, if_neg (by decide), if_pos rfl, gd]; omega, S35 3 (by decide) (by decide) (by decide) (by decide) (by decide), S35 4 (by decide) (by decide) (by decide) (by decide) (by decide), by rw [n35 r (by omega), r29, if_neg (by decide), if_neg (by decide), if_neg (by decide), Y r (by omega) (by omega), R10, if_pos rfl]⟩, fun i => by rw [n35 (r + 1) (by omega), t1, Y (r + 1) (by omega) (by omega), n10 (r + 1) (by omega)], fun i => by rw [n35 (r + 2) (by omega), t2, Y (r + 2) (by omega) (by omega), n10 (r + 2) (by omega), x21v, hB], fun i => by rw [n35 (r + 3) (by omega), t3, Y (r + 3) (by omega) (by omega), n10 (r + 3) (by omega), ex], fun i => ?_, by rw [W (r + 5) (by omega), Y (r + 5) (by omega) (by omega), n10 (r + 5) (by omega)]⟩, fun i => by rw [W O (by first | exact oO | exact off0 oO | exact off9 oO (by decide) | exact off4 oO | exact e1 | exact e3 | omega), q25, n10 O (by first | exact oO | exact off0 oO | exact off9 oO (by decide) | exact off4 oO | exact e1 | exact e3 | omega)], by rw [W p (by first | exact op | exact off0 op | exact off9 op (by decide) | exact off4 op | exact fun q => e1 q.symm | exact fun q => e2 q.symm | omega), p25, if_pos rfl]⟩⟩
  rotate_left
  · rw [g35]
    by_cases yk : i = k
    · rw [if_pos yk, if_pos yk, e14, hx3]
      have := gt (skk M r k)
      (repeat' split) <;> omega
    · rw [if_neg yk, if_neg yk, t4, if_neg yk, Y (r + 4) (by omega) (by omega), n10 (r + 4) (by omega)]
  obtain ⟨H', gg, hh⟩ := g.pshj (M' := M35) (o := 33) (pl := x21) (mk := v14) (dd := d0 + sdp M r k + 1) (c' := skk M r k) (fun i => by
    rw [n35 r (by omega), r29, Y r (by omega) (by omega), R10]
    by_cases y5 : i = 5
    · subst y5
      rw [if_neg (by decide), if_neg (by decide), if_neg (by decide), if_neg (by decide), if_pos rfl, if_neg (by decide), if_neg (by decide), if_neg (by decide), if_pos rfl]
    · rw [if_neg y5, if_neg y5]) (fun i => by rw [n35 (r + 1) (by omega), t1, Y (r + 1) (by omega) (by omega), n10 (r + 1) (by omega)]) (fun i => by rw [n35 (r + 2) (by omega), t2, Y (r + 2) (by omega) (by omega), n10 (r + 2) (by omega)]) (fun i => by rw [n35 (r + 3) (by omega), t3, Y (r + 3) (by omega) (by omega), n10 (r + 3) (by omega), ex]) (fun i => by
    rw [g35]
    by_cases yk : i = k
    · rw [if_pos yk, if_pos yk]
    · rw [if_neg yk, if_neg yk, t4, if_neg yk, Y (r + 4) (by omega) (by omega), n10 (r + 4) (by omega)]) (fun j => by rw [W (r + 5) (by omega), Y (r + 5) (by omega) (by omega), n10 (r + 5) (by omega)]; exact gt j) (by rw [W p (by first | exact op | exact off0 op | exact off9 op (by decide) | exact off4 op | exact fun q => e1 q.symm | exact fun q => e2 q.symm | omega), p25, if_pos rfl]) (fun i => by rw [W O (by first | exact oO | exact off0 oO | exact off9 oO (by decide) | exact off4 oO | exact e1 | exact e3 | omega), q25, n10 O (by first | exact oO | exact off0 oO | exact off9 oO (by decide) | exact off4 oO | exact e1 | exact e3 | omega)]) (fun i => by rw [W P (by first | exact oP | exact off0 oP | exact off9 oP (by decide) | exact off4 oP | exact e2 | exact fun q => e3 q.symm | omega), u25, n10 P (by first | exact oP | exact off0 oP | exact off9 oP (by decide) | exact off4 oP | exact e2 | exact fun q => e3 q.symm | omega)]) (by omega) ⟨x0, x1⟩ ⟨by omega, by omega⟩ (by omega) (by omega) (g.lvl (Or.inl cd)) (by omega) han (fun _ _ j hj => by rw [n35 (r + 1) (by omega), t1, if_neg (by omega), Y (r + 1) (by omega) (by omega), n10 (r + 1) (by omega), show j = k - 1 by first | rfl | omega]; exact hat (by omega))
  exact ⟨H', L + 1, gg, by omega, hh⟩

end
end
