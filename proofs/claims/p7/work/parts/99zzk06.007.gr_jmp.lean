section
section
variable {G : mG} {d z r w T A B D N C n p O P K k a s L V F d0 c : Nat} {M0 M M' M1 M2 M110 M126 M133 : mM} {H H' : Nat → Nat} {ns : Nat → Int} {wt : Int}
theorem gr_jmp {o : Int} {t : Nat} (g : RG M0 r p O P n s V F ns d0 H L (k + 1) a 0) (hb0 : RB M0 z r w T A B D N C n p O P K) (hop : mI M0 (r + 1) k = o) (yj : jm o) (no33 : o ≠ 33) (hJ : gJ M0 z r w T A B D N C n p O P K d0 k M110) (t1 : mI M0 (r + 3) k = t) (t2 : s ≤ t) (t3 : t < L) (t4 : mI M0 O t = o) (t5 : H t = bs M0 r k + 1) (o133 : mOk M133) (e133 : M133 = mUI M110 P t L) : gQ M0 z r w T A B D N C n p O P K s V F ns d0 H L k a M133 := by
  obtain ⟨oO, oP, op, e1, e2, e3⟩ := hb0.off
  obtain ⟨⟨g1, g2, g3, g4⟩, gw, ⟨ga, gs⟩, gc, ⟨gd, gd4⟩, gr, ge, ⟨gH, gHs⟩, gC, gL, gt⟩ := id g
  obtain ⟨h110, F110, R, ⟨R12, R14, d110⟩, R3, X, T5⟩ := hJ
  obtain ⟨b1, b2, b3, b4⟩ := sum_top M0 r k
  have u0 : uw 0 = 1 := rfl
  rw [hop] at b1 b2 b3 b4
  have f133 : FI (rdS r p O P) M110 M133 := by rw [e133]; exact FI.ui (Or.inr (Or.inr (Or.inr rfl)))
  have h133 := h110.fi o133 f133
  have Y : ∀ b, b ≠ P → mI M133 b = mI M110 b := fun b y1 => by rw [e133]; funext i; rw [mI_UI, if_neg (fun q => y1 q.1)]
  have YT : ∀ i, 1 ≤ i → i ≤ 9 → i ≠ 5 → mI M133 (r + i) = mI M0 (r + i) := fun i i1 i9 i5 => by rw [Y (r + i) (by omega), X (r + i) (by omega) (by omega)]
  have sm := fun i hi => sums_cg (M := M0) (M' := M133) (r := r) (k := k) (fun j _ => by rw [YT 1 (by omega) (by omega) (by omega)]) (fun j _ => by rw [YT 4 (by omega) (by omega) (by omega)]) i hi
  have QP : ∀ i, mI M133 P i = if i = t then (L : Int) else mI M0 P i := fun i => by
    rw [e133, mI_UI]
    by_cases v : i = t
    · rw [if_pos ⟨rfl, v⟩, if_pos v]
    · rw [if_neg (fun q => v q.2), if_neg v, X P (by first | exact oP | exact off0 oP | exact off9 oP (by decide) | exact off4 oP | exact e2 | exact fun q => e3 q.symm | omega) (by first | exact oP | exact off0 oP | exact off9 oP (by decide) | exact off4 oP | exact e2 | exact fun q => e3 q.symm | omega)]
  have QO : ∀ i, mI M133 O i = mI M0 O i := fun i => by rw [Y O (by first | exact oO | exact off0 oO | exact off9 oO (by decide) | exact off4 oO | exact e1 | exact e3 | omega), X O (by first | exact oO | exact off0 oO | exact off9 oO (by decide) | exact off4 oO | exact e1 | exact e3 | omega) (by first | exact oO | exact off0 oO | exact off9 oO (by decide) | exact off4 oO | exact e1 | exact e3 | omega)]
  have cm0 : cm o (mI M0 (r + 4) k) = 0 := by
    unfold jm at yj
    unfold cm
    rw [if_neg (by omega), if_neg (by omega)]
  have ce0 : se M0 r k ≤ se M0 r (k + 1) := by omega
  refine ⟨h133, F110.trans f133, fun i i3 i4 i5 i12 i14 => by rw [Y r (by omega)]; exact R i i3 i4 i5 i12 i14, fun q => by rw [Y r (by omega)]; exact R3 q, fun i i6 i9 => YT i (by omega) i9 (by omega), fun i i2 => by rw [Y p (by first | exact op | exact off0 op | exact off9 op (by decide) | exact off4 op | exact fun q => e1 q.symm | exact fun q => e2 q.symm | omega), X p (by first | exact op | exact off0 op | exact off9 op (by decide) | exact off4 op | exact fun q => e1 q.symm | exact fun q => e2 q.symm | omega) (by first | exact op | exact off0 op | exact off9 op (by decide) | exact off4 op | exact fun q => e1 q.symm | exact fun q => e2 q.symm | omega)], fun i hi => ⟨QO i, by rw [QP, if_neg (by omega)]⟩, fun i _ => by rw [YT 1 (by omega) (by omega) (by omega)], H, L, ⟨⟨by rw [Y r (by omega), R 2 (by decide) (by decide) (by decide) (by decide) (by decide)]; exact g1, by rw [Y r (by omega)]; exact R12, by rw [Y r (by omega), R 7 (by decide) (by decide) (by decide) (by decide) (by decide)]; exact g3, by rw [Y p (by first | exact op | exact off0 op | exact off9 op (by decide) | exact off4 op | exact fun q => e1 q.symm | exact fun q => e2 q.symm | omega), X p (by first | exact op | exact off0 op | exact off9 op (by decide) | exact off4 op | exact fun q => e1 q.symm | exact fun q => e2 q.symm | omega) (by first | exact op | exact off0 op | exact off9 op (by decide) | exact off4 op | exact fun q => e1 q.symm | exact fun q => e2 q.symm | omega)]; exact g4⟩, Or.inl rfl, ⟨ga, gs⟩, by rw [Y r (by omega), R14, (sm k (Nat.le_refl _)).2.1], ⟨by rw [Y r (by omega), d110, (sm k (Nat.le_refl _)).2.2.2], by rw [(sm k (Nat.le_refl _)).2.2.2]; omega⟩, fun i hi => by rw [(sm (i + 1) (by omega)).2.2.2, YT 1 (by omega) (by omega) (by omega)]; exact gr i (by omega), fun i hi => ?_, ⟨by rw [(sm k (Nat.le_refl _)).1, gH, b1, cm0]; rfl, gHs⟩, ?_, by rw [(sm k (Nat.le_refl _)).2.2.1]; omega, fun j => by rw [Y (r + 5) (by omega)]; exact T5 j⟩, Nat.le_refl _, fun _ _ => rfl⟩
  · exact (ge i (by omega)).cg (fun j _ => by rw [YT 1 (by omega) (by omega) (by omega)]) (by rw [YT 2 (by omega) (by omega) (by omega)]) (by rw [YT 3 (by omega) (by omega) (by omega)]) (fun j _ => by rw [YT 4 (by omega) (by omega) (by omega)]) (Nat.le_refl _) (fun j _ => QO j) (fun _ _ => rfl)
  · refine gC.put (t := t) (x := (L : Int)) (by rw [t4]; exact yj) QO QP (fun i _ it q => ?_) ⟨L, rfl, t3, Nat.le_refl _, fun q => absurd q (by rw [t4]; exact no33), fun _ => by rw [gH, b1, cm0, t5]; omega⟩
    obtain ⟨j, j1, j2, j3⟩ := q
    have jk : j ≠ k := fun z => by rw [z, t1] at j2; omega
    exact ⟨j, by omega, by rw [YT 3 (by omega) (by omega) (by omega)]; exact j2, by rw [YT 1 (by omega) (by omega) (by omega)]; exact j3⟩
end
end
