section
section
variable {G : mG} {d z r w T A B D N C n p O P K k a s L V F d0 c : Nat} {M0 M M' M1 M2 M110 M126 M133 : mM} {H H' : Nat → Nat} {ns : Nat → Int} {wt : Int}
theorem x_RR_takeValue {o x t : Int} (ho : i32 o) (hx : i32 x) (ht : t = 0 ∨ t = 1) (h : RB M z r w T A B D N C n p O P K) (g : RG M r p O P n s V F ns d0 H L k a 1) (han : a < n) (hs : ∀ H' : Nat → Nat, H' (L + 1) = H' L + 1 → stO V F ns H' L o x) (hj : ¬ jm o) : Ci G y_RR_takeValue (d + 1) [vr r, vi o, vi x, vi t] M (fun y M' => ((∀ i, 1 ≤ i → i ≤ 4 → mI M' (r + i) = mI M (r + i)) ∧ mI M' r 14 = mI M r 14 + 1 ∧ (∀ (c : Nat), mI M r 14 = c → ∀ i, mI M' (r + 5) i = if i = c then t else mI M (r + 5) i) ∧ (∀ i, mI M' O i = if i = L then o else mI M O i) ∧ (∀ i, mI M' P i = if i = L then x else mI M P i)) ∧ y = 0 ∧ RB M' z r w T A B D N C n p O P K ∧ FI (rdS r p O P) M M' ∧ (∀ i, i ≠ 2 → i ≠ 7 → i ≠ 14 → mI M' r i = mI M r i) ∧ (∀ i, 6 ≤ i → i ≤ 9 → mI M' (r + i) = mI M (r + i)) ∧ (∀ i, i ≠ 2 → mI M' p i = mI M p i) ∧ (∀ i, i ≠ L → mI M' O i = mI M O i ∧ mI M' P i = mI M P i) ∧ ∃ H', RG M' r p O P n s V F ns d0 H' (L + 1) k (a + 1) 0 ∧ ∀ i, i ≤ L → H' i = H i) := by
  have rm := g.room
  obtain ⟨oO, oP, op, e1, e2, e3⟩ := h.off
  have hW := h.2.2.2.1
  have hwN := hW.2.2.1
  have hN := hW.1.2.2.2.2.2.2.1
  obtain ⟨⟨g1, g2, g3, g4⟩, gw, ⟨ga, gs⟩, gc, ⟨gd, gd4⟩, gr, ge, ⟨gH, gHs⟩, gC, gL, gt⟩ := g
  have hPK := h.2.2.2.2.1
  have hK := h.2.2.2.2.2.2
  refine k_RR_takeValue h.1 ho hx (i32s (by omega) (by omega)) ?_
  rw [h.2.2.1.2]
  refine ⟨h.2.1.1, hPK.1, (s_Pr_add ho hx h.1 hPK g4 (by omega)).mono (fun y M3 q => ?_)⟩
  obtain ⟨ey, o3, f3, p3, q3, u3⟩ := q
  have f3' : FI (rdS r p O P) M M3 := f3.mono (fun b q => Or.inr q)
  have h3 := h.fi o3 f3'
  have nr : ∀ b, r ≤ b → b ≤ r + 9 → mI M3 b = mI M b := fun b b1 b2 => f3.2.2.2.2.2.2 b (fun q => by
    have q' : b = p ∨ b = O ∨ b = P := q
    first | exact off3 op oO oP (by assumption) (by assumption) q' | omega)
  refine ⟨⟨by omega, by omega⟩, o3, h3.2.1.1, (s_RR_pushKind (c := uw 1 + skk M r k) ht h3 (by rw [nr r (by omega) (by omega)]; exact gc) (by omega)).mono (fun M7 q => ?_)⟩
  obtain ⟨h7, f7, r7, t7⟩ := q
  have nr7 : ∀ b, b ≠ r → b ≠ r + 5 → mI M7 b = mI M3 b := fun b b1 b2 => f7.2.2.2.2.2.2 b (fun q => by
    have q' : b = r ∨ b = r + 5 := q
    first | exact rin5 q' | exact nin5 (by assumption) (by assumption) q' | omega)
  refine ⟨h7.1, h7.2.1.1, fun M11 e11 => ?_⟩
  obtain ⟨h11, f11, r11, n11⟩ := rb_fld h7 (v := 0) (i32s (by omega) (by omega)) e11
  have a11 : mI M11 r 2 = a := by rw [r11, if_neg (by decide), r7, if_neg (by decide), nr r (by omega) (by omega), g1]
  rw [a11]
  refine ⟨⟨by omega, by omega⟩, fun M14 e14 => ?_⟩
  obtain ⟨h14, f14, r14, n14⟩ := rb_fld h11 ⟨by omega, by omega⟩ e14
  have R14 : ∀ i, mI M14 r i = if i = 2 then (a : Int) + 1 else if i = 7 then 0 else if i = 14 then ((uw 1 + skk M r k : Nat) : Int) + 1 else mI M r i := fun i => by
    rw [r14]
    by_cases y2 : i = 2
    · rw [if_pos y2, if_pos y2]
    · rw [if_neg y2, if_neg y2, r11]
      by_cases y7 : i = 7
      · rw [if_pos y7, if_pos y7]
      · rw [if_neg y7, if_neg y7, r7, nr r (by omega) (by omega)]
  have X14 : ∀ b, b ≠ r → b ≠ r + 5 → mI M14 b = mI M3 b := fun b b1 b2 => by rw [n14 b b1, n11 b b1, nr7 b b1 b2]
  have T14 : ∀ i, 1 ≤ i → i ≤ 9 → i ≠ 5 → mI M14 (r + i) = mI M (r + i) := fun i i1 i9 i5 => by rw [X14 (r + i) (by omega) (by omega), nr (r + i) (by omega) (by omega)]
  have f57 : FI (rdS r p O P) M3 M7 := f7.mono (fun b q => Or.inl (by have q' : b = r ∨ b = r + 5 := q; first | exact rin5 q' | exact nin5 (by assumption) (by assumption) q' | omega))
  have fi : FI (rdS r p O P) M M14 := ((f3'.trans f57).trans f11).trans f14
  refine ⟨⟨fun i i1 i4 => T14 i i1 (by omega) (by omega), by rw [R14, if_neg (by decide), if_neg (by decide), if_pos rfl, gc], fun c9 hc9 i => by rw [n14 (r + 5) (by omega), n11 (r + 5) (by omega), t7, nr (r + 5) (by omega) (by omega), show c9 = uw 1 + skk M r k by first | rfl | omega], fun i => by rw [X14 O (by first | exact oO | exact off0 oO | exact off9 oO (by decide) | exact off4 oO | exact e1 | exact e3 | omega) (by first | exact oO | exact off0 oO | exact off9 oO (by decide) | exact off4 oO | exact e1 | exact e3 | omega), q3], fun i => by rw [X14 P (by first | exact oP | exact off0 oP | exact off9 oP (by decide) | exact off4 oP | exact e2 | exact fun q => e3 q.symm | omega) (by first | exact oP | exact off0 oP | exact off9 oP (by decide) | exact off4 oP | exact e2 | exact fun q => e3 q.symm | omega), u3]⟩, rfl, h14, fi, fun i i2 i7 i14 => by rw [R14, if_neg i2, if_neg i7, if_neg i14], fun i i6 i9 => T14 i (by omega) i9 (by omega), fun i i2 => by rw [X14 p (by first | exact op | exact off0 op | exact off9 op (by decide) | exact off4 op | exact fun q => e1 q.symm | exact fun q => e2 q.symm | omega) (by first | exact op | exact off0 op | exact off9 op (by decide) | exact off4 op | exact fun q => e1 q.symm | exact fun q => e2 q.symm | omega), p3, if_neg i2], fun i iL => ⟨by rw [X14 O (by first | exact oO | exact off0 oO | exact off9 oO (by decide) | exact off4 oO | exact e1 | exact e3 | omega) (by first | exact oO | exact off0 oO | exact off9 oO (by decide) | exact off4 oO | exact e1 | exact e3 | omega), q3, if_neg iL], by rw [X14 P (by first | exact oP | exact off0 oP | exact off9 oP (by decide) | exact off4 oP | exact e2 | exact fun q => e3 q.symm | omega) (by first | exact oP | exact off0 oP | exact off9 oP (by decide) | exact off4 oP | exact e2 | exact fun q => e3 q.symm | omega), u3, if_neg iL]⟩, ?_⟩
  obtain ⟨H', hH'⟩ : ∃ H' : Nat → Nat, ∀ i, H' i = if i = L + 1 then H L + 1 else H i := ⟨fun i => if i = L + 1 then H L + 1 else H i, fun _ => rfl⟩
  have hHs : ∀ i, i ≤ L → H' i = H i := fun i hi => by rw [hH', if_neg (by omega)]
  have hHL : H' (L + 1) = H' L + 1 := by rw [hH', if_pos rfl, hHs L (Nat.le_refl _)]
  have sm := fun i hi => sums_cg (M := M) (M' := M14) (r := r) (k := k) (fun j _ => by rw [T14 1 (by omega) (by omega) (by omega)]) (fun j _ => by rw [T14 4 (by omega) (by omega) (by omega)]) i hi
  have u1 : uw 1 = 0 := rfl
  have u0 : uw 0 = 1 := rfl
  refine ⟨H', ⟨⟨by rw [R14, if_pos rfl]; omega, by rw [R14, if_neg (by decide), if_neg (by decide), if_neg (by decide)]; exact g2, by rw [R14, if_neg (by decide), if_pos rfl], by rw [X14 p (by first | exact op | exact off0 op | exact off9 op (by decide) | exact off4 op | exact fun q => e1 q.symm | exact fun q => e2 q.symm | omega) (by first | exact op | exact off0 op | exact off9 op (by decide) | exact off4 op | exact fun q => e1 q.symm | exact fun q => e2 q.symm | omega), p3, if_pos rfl]; omega⟩, Or.inl rfl, ⟨by omega, by omega⟩, by rw [R14, if_neg (by decide), if_neg (by decide), if_pos rfl, (sm k (Nat.le_refl _)).2.1]; omega, ⟨by rw [R14, if_neg (by decide), if_neg (by decide), if_neg (by decide), (sm k (Nat.le_refl _)).2.2.2]; exact gd, by rw [(sm k (Nat.le_refl _)).2.2.2]; exact gd4⟩, fun i hi => by rw [(sm (i + 1) (by omega)).2.2.2, T14 1 (by omega) (by omega) (by omega)]; exact gr i hi, fun i hi => ?_, ⟨?_, ?_⟩, ?_, by rw [(sm k (Nat.le_refl _)).2.2.1]; omega, fun j => ?_⟩, hHs⟩
  · exact (ge i hi).cg (fun j _ => by rw [T14 1 (by omega) (by omega) (by omega)]) (by rw [T14 2 (by omega) (by omega) (by omega)]) (by rw [T14 3 (by omega) (by omega) (by omega)]) (fun j _ => by rw [T14 4 (by omega) (by omega) (by omega)]) (by omega) (fun j hj => by rw [X14 O (by first | exact oO | exact off0 oO | exact off9 oO (by decide) | exact off4 oO | exact e1 | exact e3 | omega) (by first | exact oO | exact off0 oO | exact off9 oO (by decide) | exact off4 oO | exact e1 | exact e3 | omega), q3, if_neg (by omega)]) hHs
  · rw [hHL, hHs L (Nat.le_refl _), gH, (sm k (Nat.le_refl _)).1]
    omega
  · rw [hHL, hHs L (Nat.le_refl _)]
    omega
  · exact gC.add gs hHs gHs (fun i => by rw [X14 O (by first | exact oO | exact off0 oO | exact off9 oO (by decide) | exact off4 oO | exact e1 | exact e3 | omega) (by first | exact oO | exact off0 oO | exact off9 oO (by decide) | exact off4 oO | exact e1 | exact e3 | omega), q3]) (fun i => by rw [X14 P (by first | exact oP | exact off0 oP | exact off9 oP (by decide) | exact off4 oP | exact e2 | exact fun q => e3 q.symm | omega) (by first | exact oP | exact off0 oP | exact off9 oP (by decide) | exact off4 oP | exact e2 | exact fun q => e3 q.symm | omega), u3]) (fun i _ q => pdg_cg q (Nat.le_refl _) (fun j _ => by rw [T14 1 (by omega) (by omega) (by omega)]) (fun j _ => by rw [T14 3 (by omega) (by omega) (by omega)])) (hs H' hHL) (fun q => absurd q hj)
  · rw [n14 (r + 5) (by omega), n11 (r + 5) (by omega), t7, nr (r + 5) (by omega) (by omega)]
    split
    · exact ht
    · exact gt j

end
end
