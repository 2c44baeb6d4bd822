section
section
variable {G : mG} {d z r w T A B D N C n p O P K k a s L V F d0 c : Nat} {M0 M M' M1 M2 M110 M126 M133 : mM} {H H' : Nat → Nat} {ns : Nat → Int} {wt : Int}
theorem gr_ord {o : Int} (g : RG M0 r p O P n s V F ns d0 H L (k + 1) a 0) (hb0 : RB M0 z r w T A B D N C n p O P K) (hop : mI M0 (r + 1) k = o) (no3 : (19 ≤ o ∧ o ≤ 29) ∨ o = 40 ∨ o = 41) (hJ : gJ M0 z r w T A B D N C n p O P K d0 k M110) (o126 : mOk M126) (f126 : FI (prS p O P) M110 M126) (p126 : ∀ j, mI M126 p j = if j = 2 then (L : Int) + 1 else mI M110 p j) (q126 : ∀ j, mI M126 O j = if j = L then o else mI M110 O j) (u126 : ∀ j, mI M126 P j = if j = L then mI M0 (r + 2) k else mI M110 P j) : gQ M0 z r w T A B D N C n p O P K s V F ns d0 H L k a M126 := by
  obtain ⟨oO, oP, op, e1, e2, e3⟩ := hb0.off
  obtain ⟨⟨g1, g2, g3, g4⟩, gw, ⟨ga, gs⟩, gc, ⟨gd, gd4⟩, gr, ge, ⟨gH, gHs⟩, gC, gL, gt⟩ := id g
  obtain ⟨h110, F110, R, ⟨R12, R14, d110⟩, R3, X, T5⟩ := hJ
  obtain ⟨b1, b2, b3, b4⟩ := sum_top M0 r k
  have u0 : uw 0 = 1 := rfl
  rw [hop] at b1 b2 b3 b4
  have nj : ¬ jm o := by unfold jm; omega
  have f126' : FI (rdS r p O P) M110 M126 := f126.mono (fun b q => Or.inr q)
  have h126 := h110.fi o126 f126'
  have Y : ∀ b, r ≤ b → b ≤ r + 9 → mI M126 b = mI M110 b := fun b y1 y2 => f126.2.2.2.2.2.2 b (fun q => by
    have q' : b = p ∨ b = O ∨ b = P := q
    first | exact off3 op oO oP (by assumption) (by assumption) q' | omega)
  have YT : ∀ i, 1 ≤ i → i ≤ 9 → i ≠ 5 → mI M126 (r + i) = mI M0 (r + i) := fun i i1 i9 i5 => by rw [Y (r + i) (by omega) (by omega), X (r + i) (by omega) (by omega)]
  obtain ⟨H', hH'⟩ : ∃ H' : Nat → Nat, ∀ i, H' i = if i = L + 1 then 1 + bs M0 r k else H i := ⟨fun i => if i = L + 1 then 1 + bs M0 r k else H i, fun _ => rfl⟩
  have hHs : ∀ i, i ≤ L → H' i = H i := fun i hi => by rw [hH', if_neg (by omega)]
  have hHL : H' (L + 1) = 1 + bs M0 r k := by rw [hH', if_pos rfl]
  have sm := fun i hi => sums_cg (M := M0) (M' := M126) (r := r) (k := k) (fun j _ => by rw [YT 1 (by omega) (by omega) (by omega)]) (fun j _ => by rw [YT 4 (by omega) (by omega) (by omega)]) i hi
  have QO : ∀ i, mI M126 O i = if i = L then o else mI M0 O i := fun i => by rw [q126, X O (by first | exact oO | exact off0 oO | exact off9 oO (by decide) | exact off4 oO | exact e1 | exact e3 | omega) (by first | exact oO | exact off0 oO | exact off9 oO (by decide) | exact off4 oO | exact e1 | exact e3 | omega)]
  have QP : ∀ i, mI M126 P i = if i = L then mI M0 (r + 2) k else mI M0 P i := fun i => by rw [u126, X P (by first | exact oP | exact off0 oP | exact off9 oP (by decide) | exact off4 oP | exact e2 | exact fun q => e3 q.symm | omega) (by first | exact oP | exact off0 oP | exact off9 oP (by decide) | exact off4 oP | exact e2 | exact fun q => e3 q.symm | omega)]
  have cmv : bs M0 r (k + 1) = bs M0 r k + (if 19 ≤ o ∧ o ≤ 29 then 1 else 0) := by
    rw [b1]
    unfold cm
    by_cases v : 19 ≤ o ∧ o ≤ 29
    · rw [if_pos v, if_pos v]
    · rw [if_neg v, if_neg v, if_neg (by omega)]
  have ce1 : cee o = 1 := by unfold cee; rw [if_pos no3]
  refine ⟨h126, F110.trans f126', fun i i3 i4 i5 i12 i14 => by rw [Y r (by omega) (by omega)]; exact R i i3 i4 i5 i12 i14, fun q => by rw [Y r (by omega) (by omega)]; exact R3 q, fun i i6 i9 => YT i (by omega) i9 (by omega), fun i i2 => by rw [p126, if_neg i2, X p (by first | exact op | exact off0 op | exact off9 op (by decide) | exact off4 op | exact fun q => e1 q.symm | exact fun q => e2 q.symm | omega) (by first | exact op | exact off0 op | exact off9 op (by decide) | exact off4 op | exact fun q => e1 q.symm | exact fun q => e2 q.symm | omega)], fun i hi => ⟨by rw [QO, if_neg (by omega)], by rw [QP, if_neg (by omega)]⟩, fun i _ => by rw [YT 1 (by omega) (by omega) (by omega)], H', L + 1, ⟨⟨by rw [Y r (by omega) (by omega), R 2 (by decide) (by decide) (by decide) (by decide) (by decide)]; exact g1, by rw [Y r (by omega) (by omega)]; exact R12, by rw [Y r (by omega) (by omega), R 7 (by decide) (by decide) (by decide) (by decide) (by decide)]; exact g3, by rw [p126, if_pos rfl]; omega⟩, Or.inl rfl, ⟨ga, by omega⟩, by rw [Y r (by omega) (by omega), R14, (sm k (Nat.le_refl _)).2.1], ⟨by rw [Y r (by omega) (by omega), d110, (sm k (Nat.le_refl _)).2.2.2], by rw [(sm k (Nat.le_refl _)).2.2.2]; omega⟩, fun i hi => by rw [(sm (i + 1) (by omega)).2.2.2, YT 1 (by omega) (by omega) (by omega)]; exact gr i (by omega), fun i hi => ?_, ⟨?_, ?_⟩, ?_, by rw [(sm k (Nat.le_refl _)).2.2.1]; omega, fun j => by rw [Y (r + 5) (by omega) (by omega)]; exact T5 j⟩, by omega, hHs⟩
  · exact (ge i (by omega)).cg (fun j _ => by rw [YT 1 (by omega) (by omega) (by omega)]) (by rw [YT 2 (by omega) (by omega) (by omega)]) (by rw [YT 3 (by omega) (by omega) (by omega)]) (fun j _ => by rw [YT 4 (by omega) (by omega) (by omega)]) (by omega) (fun j hj => by rw [QO, if_neg (by omega)]) hHs
  · rw [hHL, (sm k (Nat.le_refl _)).1]; omega
  · rw [hHL]
    split at cmv <;> omega
  · refine gC.add gs hHs gHs QO QP (fun i _ q => ?_) ?_ (fun q => absurd q nj)
    · obtain ⟨j, j1, j2, j3⟩ := q
      have jk : j ≠ k := fun z => by rw [z, hop] at j3; exact nj j3
      exact ⟨j, by omega, by rw [YT 3 (by omega) (by omega) (by omega)]; exact j2, by rw [YT 1 (by omega) (by omega) (by omega)]; exact j3⟩
    · have e0 := hHs L (Nat.le_refl _)
      by_cases v : 19 ≤ o ∧ o ≤ 29
      · rw [if_pos v] at cmv
        exact Or.inr (Or.inr (Or.inr (Or.inr (Or.inr (Or.inr (Or.inl ⟨Or.inr (Or.inr v), by omega, by omega⟩))))))
      · rw [if_neg v] at cmv
        exact Or.inr (Or.inr (Or.inr (Or.inr (Or.inr (Or.inl ⟨by omega, by omega, by omega⟩)))))
end
end
