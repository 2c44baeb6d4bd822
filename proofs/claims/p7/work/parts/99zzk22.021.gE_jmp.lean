section
section
variable {G : mG} {d z r w T A B D N C n p O P K k a s L V F d0 c : Nat} {M0 M M' M1 M2 M110 M126 M133 : mM} {H H' : Nat → Nat} {ns : Nat → Int} {wt : Int}
theorem gE_jmp {o l3 : Int} {v9 : Int × Int} {t : Nat} (hb0 : RB M0 z r w T A B D N C n p O P K) (hop : mI M0 (r + 1) k = o) (yj : jm o) (R12 : mI M110 r 12 = k) (GD : mI M110 r 5 = mI M0 r 5 - cdp o) (R14 : mI M110 r 14 = ((uw 0 + skk M0 r k : Nat) : Int)) (X : ∀ b, b ≠ r → b ≠ r + 5 → mI M110 b = mI M0 b) (G5 : ∀ i, mI M110 (r + 5) i = if i = skk M0 r k then l3 else mI M0 (r + 5) i) (GF : Fqq M0 r v9 M110) (g4 : mI M0 p 2 = L) (t1 : mI M0 (r + 3) k = t) (e133 : M133 = mUI M110 P t L) : gE M0 r p O P k L l3 v9 M133 := by
  obtain ⟨oO, oP, op, e1, e2, e3⟩ := hb0.off
  have Y6 : ∀ b, b ≠ P → mI M133 b = mI M110 b := fun b y1 => by rw [e133]; funext i; rw [mI_UI, if_neg (fun q => y1 q.1)]
  have Yr : mI M133 r = mI M110 r := Y6 r (by omega)
  have Y5 : mI M133 (r + 5) = mI M110 (r + 5) := Y6 (r + 5) (by omega)
  have YO : mI M133 O = mI M0 O := by rw [Y6 O (by first | exact oO | exact off0 oO | exact off9 oO (by decide) | exact off4 oO | exact e1 | exact e3 | omega), X O (by first | exact oO | exact off0 oO | exact off9 oO (by decide) | exact off4 oO | exact e1 | exact e3 | omega) (by first | exact oO | exact off0 oO | exact off9 oO (by decide) | exact off4 oO | exact e1 | exact e3 | omega)]
  have Yp : mI M133 p = mI M0 p := by rw [Y6 p (by first | exact op | exact off0 op | exact off9 op (by decide) | exact off4 op | exact fun q => e1 q.symm | exact fun q => e2 q.symm | omega), X p (by first | exact op | exact off0 op | exact off9 op (by decide) | exact off4 op | exact fun q => e1 q.symm | exact fun q => e2 q.symm | omega) (by first | exact op | exact off0 op | exact off9 op (by decide) | exact off4 op | exact fun q => e1 q.symm | exact fun q => e2 q.symm | omega)]
  have XP : mI M110 P = mI M0 P := X P (by first | exact oP | exact off0 oP | exact off9 oP (by decide) | exact off4 oP | exact e2 | exact fun q => e3 q.symm | omega) (by first | exact oP | exact off0 oP | exact off9 oP (by decide) | exact off4 oP | exact e2 | exact fun q => e3 q.symm | omega)
  have YT : ∀ i, 1 ≤ i → i ≤ 4 → mI M133 (r + i) = mI M0 (r + i) := fun i i1 i4 => by rw [Y6 (r + i) (by omega), X (r + i) (by omega) (by omega)]
  have YP : ∀ i, mI M133 P i = if i = t then (L : Int) else mI M0 P i := fun i => by
    rw [e133, mI_UI]
    by_cases v : i = t
    · rw [if_pos ⟨rfl, v⟩, if_pos v]
    · rw [if_neg (fun q => v q.2), if_neg v, XP]
  unfold gE
  rw [hop]
  exact ⟨⟨by rw [Yr]; exact R12, by rw [Yr]; exact GD, by rw [Yr]; exact R14⟩, YT, fun i => by rw [Y5]; exact G5 i, GF.later (by rw [Yr]) (by rw [Yr]), fun q => absurd yj q, fun _ => ⟨t, t1, fun i => by rw [YO], YP, by rw [Yp]; exact g4⟩⟩
end
end
