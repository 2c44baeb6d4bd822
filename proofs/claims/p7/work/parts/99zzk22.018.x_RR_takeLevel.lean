section
section
variable {G : mG} {d z r w T A B D N C n p O P K k a s L V F d0 c : Nat} {M0 M M' M1 M2 M110 M126 M133 : mM} {H H' : Nat → Nat} {ns : Nat → Int} {wt : Int}
theorem x_RR_takeLevel {o pl : Int} (h : RB M z r w T A B D N C n p O P K) (g : RG M r p O P n s V F ns d0 H L k a 1) (ho : o = 37 ∨ o = 40 ∨ o = 41 ∨ o = 15 ∨ o = 16) (hpl : 0 ≤ pl ∧ pl ≤ 16384) (han : a < n) : Ci G y_RR_takeLevel (d + 1) [vr r, vi o, vi pl] M (fun x M' => lvQ M z r w T A B D N C n p O P K s V F ns d0 H L k a x M' ∧ ((x = 2 ∧ ¬ mI M r 5 < 40) ∨ (x = 0 ∧ mI M r 5 < 40 ∧ pshE M r k o pl (-1) 0 (mI M r 5 + 1) (mI M r 14) M'))) := by
  have rm := g.room
  obtain ⟨oO, oP, op, e1, e2, e3⟩ := h.off
  have hwN := h.2.2.2.1.2.2.1
  have hN := h.2.2.2.1.1.2.2.2.2.2.2.1
  obtain ⟨⟨g1, g2, g3, g4⟩, -, -, -, ⟨gd, gd4⟩, -⟩ := id g
  refine k_RR_takeLevel h.1 (i32s (by omega) (by omega)) (i32s (by omega) (by omega)) ⟨h.2.1.1, fun y => ⟨⟨by omega, by omega⟩, fun M5 e5 => ?_⟩, fun y => ⟨⟨h, FI.refl, fun _ _ _ _ _ => rfl, fun _ _ _ => rfl, ⟨rfl, rfl, rfl⟩, Or.inl ⟨rfl, rfl⟩⟩, Or.inl ⟨rfl, by omega⟩⟩⟩
  obtain ⟨h5, f5, r5, n5⟩ := rb_fld h ⟨by omega, by omega⟩ e5
  refine (s_RR_push (k := k) (a := a) (i32s (by omega) (by omega)) (i32s (by omega) (by omega)) (i32s (by omega) (by omega)) h5 (by rw [r5, if_neg (by decide)]; exact g2) (by omega) (by rw [r5, if_neg (by decide)]; exact g1) (by omega)).mono (fun M7 q => ?_)
  obtain ⟨h7, f7, r7, t1, t2, t3, t4⟩ := q
  have o7 : ∀ b, (b < r ∨ r + 4 < b) → mI M7 b = mI M b := fun b hb => by
    rw [f7.2.2.2.2.2.2 b (fun q => by have q' : r ≤ b ∧ b ≤ r + 4 := q; omega), n5 b (by omega)]
  have R7 : ∀ i, mI M7 r i = if i = 2 then (a : Int) + 1 else if i = 7 then 1 else if i = 12 then (k : Int) + 1 else if i = 5 then ((d0 + sdp M r k + 1 : Nat) : Int) else mI M r i := fun i => by
    rw [r7, r5]
    by_cases y5 : i = 5
    · subst y5
      rw [if_neg (by decide), if_neg (by decide), if_neg (by decide), if_pos rfl, if_neg (by decide), if_neg (by decide), if_neg (by decide), if_pos rfl, gd]
      omega
    · rw [if_neg y5, if_neg y5]
  have cd : cdp o = 1 := gp_c9 ho
  have f57 : FI (rdS r p O P) M5 M7 := f7.mono (fun b q => Or.inl (by have q' : r ≤ b ∧ b ≤ r + 4 := q; omega))
  have s7 : ∀ i, i ≠ 2 → i ≠ 5 → i ≠ 7 → i ≠ 12 → mI M7 r i = mI M r i := fun i i2 i5 i7 i12 => by rw [R7, if_neg i2, if_neg i7, if_neg i12, if_neg i5]
  refine ⟨h7.1, ⟨h7, f5.trans f57, fun i i2 i5 i7 i12 => by rw [R7, if_neg i2, if_neg i7, if_neg i12, if_neg i5], fun i i5 i9 => o7 (r + i) (by omega), ⟨o7 p (by first | exact op | exact off0 op | exact off9 op (by decide) | exact off4 op | exact fun q => e1 q.symm | exact fun q => e2 q.symm | omega), o7 O (by first | exact oO | exact off0 oO | exact off9 oO (by decide) | exact off4 oO | exact e1 | exact e3 | omega), o7 P (by first | exact oP | exact off0 oP | exact off9 oP (by decide) | exact off4 oP | exact e2 | exact fun q => e3 q.symm | omega)⟩, Or.inr ⟨rfl, ?_⟩⟩, Or.inr ⟨rfl, by omega, ⟨by rw [R7, if_neg (by decide), if_neg (by decide), if_pos rfl], by rw [R7, if_neg (by decide), if_neg (by decide), if_neg (by decide), if_pos rfl, gd]; omega, s7 3 (by decide) (by decide) (by decide) (by decide), s7 4 (by decide) (by decide) (by decide) (by decide), s7 14 (by decide) (by decide) (by decide) (by decide)⟩, fun i => by rw [t1, n5 (r + 1) (by omega)], fun i => by rw [t2, n5 (r + 2) (by omega)], fun i => by rw [t3, n5 (r + 3) (by omega)], fun i => by rw [t4, n5 (r + 4) (by omega)], o7 _ (by omega)⟩⟩
  exact g.psh (o := o) (pl := pl) (dd := d0 + sdp M r k + 1) R7 (fun i => by rw [t1, n5 (r + 1) (by omega)]) (fun i => by rw [t2, n5 (r + 2) (by omega)]) (fun i => by rw [t3, n5 (r + 3) (by omega)]) (fun i => by rw [t4, n5 (r + 4) (by omega)]) (o7 _ (by omega)) (o7 p (by first | exact op | exact off0 op | exact off9 op (by decide) | exact off4 op | exact fun q => e1 q.symm | exact fun q => e2 q.symm | omega)) (o7 O (by first | exact oO | exact off0 oO | exact off9 oO (by decide) | exact off4 oO | exact e1 | exact e3 | omega)) (o7 P (by first | exact oP | exact off0 oP | exact off9 oP (by decide) | exact off4 oP | exact e2 | exact fun q => e3 q.symm | omega)) (by unfold opn; omega) (by unfold jm; omega) hpl (by rw [cd]) (by omega) (g.lvl (Or.inl cd)) (by show 0 = ckk o; unfold ckk; split <;> omega) (by show 0 = cm o 0; unfold cm; (repeat' split) <;> omega) han

end
end
