section
variable {G : mG} {d z r w T A B D N C n p O P K k a s L V F d0 c : Nat} {M0 M M' M1 M2 M110 M126 M133 : mM} {H H' : Nat → Nat} {ns : Nat → Int} {wt : Int} {u : Ru} {c9 c8 L1 : Nat} {H1 : Nat → Nat}
theorem x_ciList {l5 : Int} (g : RG M r p O P n s V F ns d0 H L (k + 1) a 0) (h : RB M z r w T A B D N C n p O P K) (han : a < n) (ho : mI M (r + 1) k = 15 ∨ mI M (r + 1) k = 16) (h5 : l5 = 0 ∨ l5 = 1) (v : RW0 u M r O P s c9 c8 L a) (hw0 : Hid (l5 = 0 → ruW u a = 37)) (hw1 : Hid (l5 = 1 → ruW u a = 35)) (hc9 : c9 ≤ 6) : h_RR_closeInner_165 G d r k 1 l5 M (fun x M' => cliQ M z r w T A B D N C n p O P K s V F ns d0 L a x M' ∧ clV u r p O P s a x M') := by
  have rm := g.room
  have hwN := h.2.2.2.1.2.2.1
  have hN := h.2.2.2.1.1.2.2.2.2.2.2.1
  have hK := h.2.2.2.2.2.2
  obtain ⟨oO, oP, op, e1, e2, e3⟩ := h.off
  obtain ⟨b1, -, b3, -⟩ := sum_top M r k
  have ce : cee (mI M (r + 1) k) = 0 := by unfold cee; rw [if_neg (ho_e ho)]
  have nj : ¬ jm (mI M (r + 1) k) := ho_j ho
  rw [ce] at b3
  have u0 : uw 0 = 1 := rfl
  obtain ⟨⟨g1, g2, g3, g4⟩, -, ⟨-, gs⟩, -, -, -, ge, ⟨gH, gHs⟩, gC, gL, -⟩ := id g
  obtain ⟨-, en2, en3, en4, -, -⟩ := ge k (by omega)
  have m023 : Hid (mI M (r + 4) k = 0 ∨ mI M (r + 4) k = 2 ∨ mI M (r + 4) k = 3) := v.m15 (k := k) hc9 (by rw [g2]; rfl) rfl ho
  have mk2 := mk_and2 (m := mI M (r + 4) k) ⟨en3.1, en4 ho⟩
  obtain ⟨-, ⟨k0, ⟨q8, q9, -, q11, -⟩, ⟨kk1, kk2, -, kk4, -⟩, ⟨nn1, nn2, -, nn4, -⟩⟩, ⟨-, rp1⟩, -, hPK, -⟩ := id h
  refine k_RR_closeInner_165 h.1 ⟨by omega, by omega⟩ (i32s (by omega) (by omega)) (i32s (by omega) (by omega)) ⟨fun y => absurd y (by omega), fun _ => ?_⟩
  rw [q11, q8, q9, nn4, nn1, nn2, Int.toNat_natCast, rp1]
  refine ⟨k0, kk4, by omega, fun y => ?_, fun y => ⟨kk1, by omega, kk2, by omega, hPK.1, (s_Pr_add (n := L) (h.1 _ _).1 (h.1 _ _).1 h.1 hPK g4 (by omega)).mono (fun x M1 q => ?_)⟩⟩
  · have c0 : cm (mI M (r + 1) k) (mI M (r + 4) k) = 0 := by
      have := mk2.resolve_right (fun u => u.1 y)
      unfold cm
      rw [if_neg (ho_c ho), if_neg (fun u => this.2 u.2)]
    rw [c0] at b1
    have m0 : mI M (r + 4) k = 0 := (show _ ∨ _ from m023).resolve_right (mk2.resolve_right (fun u => u.1 y)).2
    exact x_ci201 (H1 := H) (L1 := L) g h han ho ⟨h, FI.refl, fun _ _ _ => rfl, fun i => by
      by_cases v : i = 2
      · rw [if_pos v, v]; exact g4
      · rw [if_neg v], fun _ _ => ⟨rfl, rfl⟩, Nat.le_refl _, fun _ _ => rfl, by omega, gHs, gC, by omega⟩ h5 v hw0 hw1 hc9 (fun _ => ⟨rfl, rfl, rfl⟩) (fun q => absurd m0 q)
  · have c1 : cm (mI M (r + 1) k) (mI M (r + 4) k) = 1 := by
      have := mk2.resolve_left (fun u => y u.1)
      unfold cm
      rw [if_neg (ho_c ho), if_pos ⟨ho, this.2⟩]
    rw [c1] at b1
    obtain ⟨ex, o1, f1, p1, q1, v1⟩ := q
    have f1' : FI (rdS r p O P) M M1 := f1.mono (fun b q => Or.inr q)
    have h1 := h.fi o1 f1'
    obtain ⟨H', hH'⟩ : ∃ H' : Nat → Nat, ∀ i, H' i = if i = L + 1 then 1 + bs M r k else H i := ⟨fun i => if i = L + 1 then 1 + bs M r k else H i, fun _ => rfl⟩
    have hHs : ∀ i, i ≤ L → H' i = H i := fun i hi => by rw [hH', if_neg (by omega)]
    have hHL : H' (L + 1) = 1 + bs M r k := by rw [hH', if_pos rfl]
    have hL0 := hHs L (Nat.le_refl _)
    have m0 : mI M (r + 4) k ≠ 0 := fun q => by rw [q] at y; exact y (by decide)
    refine ⟨⟨by omega, by omega⟩, o1, x_ci201 (H1 := H') (L1 := L + 1) g h han ho ⟨h1, f1', fun b y1 y2 => f1.2.2.2.2.2.2 b (fun q => by
      have q' : b = p ∨ b = O ∨ b = P := q
      first | exact off3 op oO oP (by assumption) (by assumption) q' | omega), fun i => by rw [p1]; rfl, fun i hi => ⟨by rw [q1, if_neg (by omega)], by rw [v1, if_neg (by omega)]⟩, by omega, hHs, hHL, by omega, gC.add gs hHs gHs q1 v1 (fun _ _ u => u) (Or.inr (Or.inr (Or.inr (Or.inr (Or.inr (Or.inr (Or.inl ⟨by first | exact ho.elim (fun e => Or.inl e) (fun e => Or.inr (Or.inl e)) | omega, by omega, by omega⟩))))))) (fun u => absurd u nj), by omega⟩ h5 v hw0 hw1 hc9 (fun q => absurd q m0) (fun _ => ⟨rfl, q1, v1⟩)⟩

end
