section
variable {G : mG} {d z r w T A B D N C n p O P K k a s L V F d0 c : Nat} {M0 M M' M1 M2 M110 M126 M133 : mM} {H H' : Nat → Nat} {ns : Nat → Int} {wt : Int} {u : Ru} {c9 c8 L1 : Nat} {H1 : Nat → Nat}
theorem x_ciOpen (h : RB M z r w T A B D N C n p O P K) (g : RG M r p O P n s V F ns d0 H L (k + 1) a 0) (han : a < n) (ho : mI M (r + 1) k = 37) (v : RW0 u M r O P s c9 c8 L a) (hw : ruW u a = 37) (hc9 : c9 ≤ 6) : h_RR_closeInner_165 G d r k 0 0 M (fun x M' => cliQ M z r w T A B D N C n p O P K s V F ns d0 L a x M' ∧ clV u r p O P s a x M') := by
  have rm := g.room
  have hwN := h.2.2.2.1.2.2.1
  have hN := h.2.2.2.1.1.2.2.2.2.2.2.1
  obtain ⟨oO, oP, op, e1, e2, e3⟩ := h.off
  obtain ⟨b1, b2, b3, b4⟩ := sum_top M r k
  have u0 : uw 0 = 1 := rfl
  have cd : cdp (mI M (r + 1) k) = 1 := by unfold cdp; rw [if_pos (by omega)]
  have ck : ckk (mI M (r + 1) k) = 0 := by unfold ckk; rw [if_neg (by omega)]
  have c0 : cm (mI M (r + 1) k) (mI M (r + 4) k) = 0 := by unfold cm; rw [if_neg (by omega), if_neg (by omega)]
  have nj : ¬ jm (mI M (r + 1) k) := by unfold jm; omega
  rw [cd] at b4
  rw [ck] at b2
  rw [c0] at b1
  obtain ⟨⟨g1, g2, g3, g4⟩, -, ⟨-, gs⟩, gc, ⟨gd, gd4⟩, -, -, ⟨gH, gHs⟩, gC, gL, gt⟩ := id g
  refine k_RR_closeInner_165 h.1 ⟨by omega, by omega⟩ (i32s (by omega) (by omega)) (i32s (by omega) (by omega)) ⟨fun _ => ⟨fun _ => ⟨fun _ => ?_, fun y => absurd rfl y⟩, fun y => absurd (Or.inl rfl) y⟩, fun y => absurd rfl y⟩
  refine s_ciPop (a := a) (k := k) (e := d0 + sdp M r k) h g1 (by omega) g2 (by omega) (by rw [gd, b4]; rfl) (by omega) (fun M' h' f' g' n' => ?_)
  have nt : ∀ i, 1 ≤ i → mI M' (r + i) = mI M (r + i) := fun i hi => n' (r + i) (by omega)
  have zO : mI M' O = mI M O := n' O (by first | exact oO | exact off0 oO | exact off9 oO (by decide) | exact off4 oO | exact e1 | exact e3 | omega)
  have zP : mI M' P = mI M P := n' P (by first | exact oP | exact off0 oP | exact off9 oP (by decide) | exact off4 oP | exact e2 | exact fun q => e3 q.symm | omega)
  have zp : mI M' p = mI M p := n' p (by first | exact op | exact off0 op | exact off9 op (by decide) | exact off4 op | exact fun q => e1 q.symm | exact fun q => e2 q.symm | omega)
  refine ⟨⟨h', f', fun i i2 i3 i4 i5 i7 i12 i14 => by rw [g', if_neg i2, if_neg i7, if_neg i5, if_neg i12], fun _ => by rw [g', if_neg (by decide), if_neg (by decide), if_neg (by decide), if_neg (by decide)], fun i i6 i9 => nt i (by omega), fun i _ => by rw [n' p (by first | exact op | exact off0 op | exact off9 op (by decide) | exact off4 op | exact fun q => e1 q.symm | exact fun q => e2 q.symm | omega)], fun i _ => by rw [n' O (by first | exact oO | exact off0 oO | exact off9 oO (by decide) | exact off4 oO | exact e1 | exact e3 | omega), n' P (by first | exact oP | exact off0 oP | exact off9 oP (by decide) | exact off4 oP | exact e2 | exact fun q => e3 q.symm | omega)]; exact ⟨rfl, rfl⟩, Or.inr ⟨rfl, H, L, k, 0, ?_, Nat.le_refl _⟩⟩, Or.inr ⟨rfl, fun L9 hL9 => ⟨fun _ => ?_, fun q => absurd q (by rw [g', if_neg (by decide), if_pos rfl]; decide)⟩⟩⟩
  rotate_left
  · have e9 : L9 = L := by rw [zp, g4] at hL9; exact (Int.ofNat_inj.mp hL9).symm
    rw [e9]
    exact v.par (k := k) hw hc9 (by rw [g2]; rfl) ho (by rw [g', if_neg (by decide), if_neg (by decide), if_neg (by decide), if_pos rfl]) (by rw [g', if_neg (by decide), if_neg (by decide), if_pos rfl, gd, b4]; exact dcan _ _) (by rw [g', if_neg (by decide), if_neg (by decide), if_neg (by decide), if_neg (by decide)]) (by rw [g', if_neg (by decide), if_neg (by decide), if_neg (by decide), if_neg (by decide)]) (by rw [g', if_neg (by decide), if_neg (by decide), if_neg (by decide), if_neg (by decide)]) (fun i i1 _ => nt i i1) (nt 5 (by decide)) zO zP
  refine g.popc ⟨by rw [g', if_pos rfl], by rw [g', if_neg (by decide), if_neg (by decide), if_neg (by decide), if_pos rfl], by rw [g', if_neg (by decide), if_pos rfl], by rw [g', if_neg (by decide), if_neg (by decide), if_neg (by decide), if_neg (by decide), gc, b2]; omega, by rw [g', if_neg (by decide), if_neg (by decide), if_pos rfl]⟩ (fun j _ => by rw [nt 1 (by omega)]) (fun j _ => by rw [nt 2 (by omega)]) (fun j _ => by rw [nt 3 (by omega)]) (fun j _ => by rw [nt 4 (by omega)]) (fun j => by rw [nt 5 (by omega)]; exact gt j) (by rw [n' p (by first | exact op | exact off0 op | exact off9 op (by decide) | exact off4 op | exact fun q => e1 q.symm | exact fun q => e2 q.symm | omega)]; exact g4) (Nat.le_refl _) (fun j _ => by rw [n' O (by first | exact oO | exact off0 oO | exact off9 oO (by decide) | exact off4 oO | exact e1 | exact e3 | omega)]) (fun _ _ => rfl) (by omega) gHs (fun pc p0 p1 => ?_) (by omega) han
  rw [n' O (by first | exact oO | exact off0 oO | exact off9 oO (by decide) | exact off4 oO | exact e1 | exact e3 | omega), n' P (by first | exact oP | exact off0 oP | exact off9 oP (by decide) | exact off4 oP | exact e2 | exact fun q => e3 q.symm | omega)]
  obtain ⟨a1, a2, a3⟩ := gC pc p0 p1
  refine ⟨a1, fun q => ?_, a3⟩
  rcases a2 q with ⟨j, j1, j2, j3⟩ | v
  · have jk : j ≠ k := fun y => nj (by rw [← y]; exact j3)
    exact Or.inl ⟨j, by omega, by rw [nt 3 (by omega)]; exact j2, by rw [nt 1 (by omega)]; exact j3⟩
  · exact Or.inr v

end
