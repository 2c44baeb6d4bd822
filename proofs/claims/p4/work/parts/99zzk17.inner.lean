/-! The class's reader of rules: closeInner. -/
section RRJ
variable {G : mG} {d z r w T A B D N C n p O P K k a s L L1 V F d0 c : Nat} {M0 M M' M1 M2 : mM} {H H1 : Nat → Nat} {ns : Nat → Int} {wt : Int}
theorem s_ciList {l5 : Int} (g : RG M r p O P n s V F ns d0 H L (k + 1) a 0) (h : RB M z r w T A B D N C n p O P K) (han : a < n) (ho : mI M (r + 1) k = 15 ∨ mI M (r + 1) k = 16) (h5 : l5 = 0 ∨ l5 = 1) : h_RR_closeInner_165 G d r k 1 l5 M (cliQ M z r w T A B D N C n p O P K s V F ns d0 L a) := by
  have rm := g.room
  have hwN := h.2.2.2.1.2.2.1
  have hN := h.2.2.2.1.1.2.2.2.2.2.2.1
  have hK := h.2.2.2.2.2.2
  obtain ⟨oO, oP, op, e1, e2, e3⟩ := h.off
  obtain ⟨b1, -, b3, -⟩ := sum_top M r k
  have ce : cee (mI M (r + 1) k) = 0 := by unfold cee; rw [if_neg (by omega)]
  have nj : ¬ jm (mI M (r + 1) k) := by unfold jm; omega
  rw [ce] at b3
  have u0 : uw 0 = 1 := rfl
  obtain ⟨⟨g1, g2, g3, g4⟩, -, ⟨-, gs⟩, -, -, -, ge, ⟨gH, gHs⟩, gC, gL, -⟩ := id g
  obtain ⟨-, en2, en3, en4, -, -⟩ := ge k (by omega)
  have mk2 := mk_and2 (m := mI M (r + 4) k) ⟨en3.1, en4 ho⟩
  obtain ⟨-, ⟨k0, ⟨q8, q9, -, q11, -⟩, ⟨kk1, kk2, -, kk4, -⟩, ⟨nn1, nn2, -, nn4, -⟩⟩, ⟨-, rp1⟩, -, hPK, -⟩ := id h
  refine k_RR_closeInner_165 h.1 ⟨by omega, by omega⟩ (i32s (by omega) (by omega)) (i32s (by omega) (by omega)) ⟨fun y => absurd y (by omega), fun _ => ?_⟩
  rw [q11, q8, q9, nn4, nn1, nn2, Int.toNat_natCast, rp1]
  refine ⟨k0, kk4, by omega, fun y => ?_, fun y => ⟨kk1, by omega, kk2, by omega, hPK.1, (s_Pr_add (n := L) (h.1 _ _).1 (h.1 _ _).1 h.1 hPK g4 (by omega)).mono (fun x M1 q => ?_)⟩⟩
  · have c0 : cm (mI M (r + 1) k) (mI M (r + 4) k) = 0 := by
      have := mk2.resolve_right (fun u => u.1 y)
      unfold cm
      rw [if_neg (by omega), if_neg (fun u => this.2 u.2)]
    rw [c0] at b1
    exact s_ci201 (H1 := H) (L1 := L) g h han ho ⟨h, FI.refl, fun _ _ _ => rfl, fun i => by
      by_cases v : i = 2
      · rw [if_pos v, v]; exact g4
      · rw [if_neg v], fun _ _ => ⟨rfl, rfl⟩, Nat.le_refl _, fun _ _ => rfl, by omega, gHs, gC, by omega⟩ h5
  · have c1 : cm (mI M (r + 1) k) (mI M (r + 4) k) = 1 := by
      have := mk2.resolve_left (fun u => y u.1)
      unfold cm
      rw [if_neg (by omega), if_pos ⟨ho, this.2⟩]
    rw [c1] at b1
    obtain ⟨ex, o1, f1, p1, q1, v1⟩ := q
    have f1' : FI (rdS r p O P) M M1 := f1.mono (fun b q => Or.inr q)
    have h1 := h.fi o1 f1'
    obtain ⟨H', hH'⟩ : ∃ H' : Nat → Nat, ∀ i, H' i = if i = L + 1 then 1 + bs M r k else H i := ⟨fun i => if i = L + 1 then 1 + bs M r k else H i, fun _ => rfl⟩
    have hHs : ∀ i, i ≤ L → H' i = H i := fun i hi => by rw [hH', if_neg (by omega)]
    have hHL : H' (L + 1) = 1 + bs M r k := by rw [hH', if_pos rfl]
    have hL0 := hHs L (Nat.le_refl _)
    refine ⟨⟨by omega, by omega⟩, o1, s_ci201 (H1 := H') (L1 := L + 1) g h han ho ⟨h1, f1', fun b y1 y2 => f1.2.2.2.2.2.2 b (fun q => by
      have q' : b = p ∨ b = O ∨ b = P := q
      omega), fun i => by rw [p1]; rfl, fun i hi => ⟨by rw [q1, if_neg (by omega)], by rw [v1, if_neg (by omega)]⟩, by omega, hHs, hHL, by omega, gC.add gs hHs gHs q1 v1 (fun _ _ u => u) (Or.inr (Or.inr (Or.inr (Or.inr (Or.inr (Or.inr (Or.inl ⟨by omega, by omega, by omega⟩))))))) (fun u => absurd u nj), by omega⟩ h5⟩
theorem s_RR_closeInner {l1 : Int} (i1 : i32 l1) (g : RG M r p O P n s V F ns d0 H L (k + 1) a 0) (h : RB M z r w T A B D N C n p O P K) (han : a < n) (ho : mI M (r + 1) k = 37 ∨ mI M (r + 1) k = 40 ∨ mI M (r + 1) k = 41 ∨ mI M (r + 1) k = 15 ∨ mI M (r + 1) k = 16 ∨ mI M (r + 1) k = 33) : Ci G y_RR_closeInner (d + 1) [vr r, vi l1, vi k] M (cliQ M z r w T A B D N C n p O P K s V F ns d0 L a) := by
  have rm := g.room
  obtain ⟨-, ⟨k0, ⟨q8, -, -, q11, -⟩, ⟨kk1, -⟩, ⟨nn1, -⟩⟩, -⟩ := id h
  refine k_RR_closeInner h.1 i1 ⟨by omega, by omega⟩ ?_
  rw [q8, nn1, Int.toNat_natCast, q11]
  refine ⟨k0, kk1, by omega, fun v5 e5 => ⟨by omega, fun _ => by omega, fun v14 e14 v25 e25 => ⟨fun y => ⟨fun y5 => ?_, fun y5 => ?_⟩, fun _ => ⟨h, FI.refl, fun _ _ _ _ _ _ _ _ => rfl, fun _ => rfl, fun _ _ _ => rfl, fun _ _ => rfl, fun _ _ => ⟨rfl, rfl⟩, Or.inl ⟨rfl, rfl⟩⟩⟩⟩⟩
  · have n33 : mI M (r + 1) k ≠ 33 := fun u => by rw [if_pos u] at e5; omega
    by_cases u : mI M (r + 1) k = 15 ∨ mI M (r + 1) k = 16
    · rw [if_pos u] at e14
      rw [e14]
      exact s_ciList g h han u (by rw [e25]; split <;> omega)
    · rw [if_neg u] at e14
      rw [if_pos (Or.inl ⟨y5, Or.inl e14⟩)] at e25
      rw [e14, e25]
      exact s_ciOpen h g han (by omega)
  · have y33 : mI M (r + 1) k = 33 := Classical.byContradiction (fun u => y5 (by rw [e5, if_neg u]))
    have z14 : v14 = 0 := by rw [e14, if_neg (by omega)]
    have z25 : v25 = 1 := by
      rcases y with v | v
      · have : v25 = 0 ∨ v25 = 1 := by rw [e25]; split <;> omega
        omega
      · exact absurd v.1 y5
    rw [z14, z25]
    exact s_ciElse h g han y33
end RRJ
