section
section
variable {G : mG} {d z r w T A B D N C n p O P K k a s L V F d0 c : Nat} {M0 M M' M1 M2 M110 M126 M133 : mM} {H H' : Nat → Nat} {ns : Nat → Int} {wt : Int}
theorem x_gr271 {l3 : Int} {v9 : Int × Int} (g : RG M0 r p O P n s V F ns d0 H L (k + 1) a 0) (hb0 : RB M0 z r w T A B D N C n p O P K) (ho : grpO (mI M0 (r + 1) k)) (h : gI M0 z r w T A B D N C n p O P K k (skk M0 r k) M) (h3 : l3 = 0 ∨ l3 = 1) (hx5 : mI M (r + 5) = mI M0 (r + 5)) (hxf : Fqq M0 r v9 M) : h_RR_group_271 G d r (mI M0 (r + 1) k) l3 M (fun M' => gQ M0 z r w T A B D N C n p O P K s V F ns d0 H L k a M' ∧ gE M0 r p O P k L l3 v9 M') := by
  have rm := g.room
  have sk1 := skk_le M0 r k
  obtain ⟨oO, oP, op, e1, e2, e3⟩ := hb0.off
  have hK := hb0.2.2.2.2.2.2
  obtain ⟨⟨g1, g2, g3, g4⟩, gw, ⟨ga, gs⟩, gc, ⟨gd, gd4⟩, gr, ge, ⟨gH, gHs⟩, gC, gL, gt⟩ := id g
  obtain ⟨h1, h2, h3', ⟨h4, h5⟩, h6, h7, h8⟩ := h
  have b4 := (sum_top M0 r k).2.2.2
  obtain ⟨en1, en2, en3, en4, en5, en6, -⟩ := ge k (by omega)
  generalize hop : mI M0 (r + 1) k = o at *
  have u0 : uw 0 = 1 := rfl
  have io : i32 o := gp_i ho
  refine k_RR_group_271 h1.1 io (i32s (by omega) (by omega)) ⟨h1.2.1.1, (s_RR_pushKind h3 h1 h5 (by omega)).mono (fun M98 q => ?_)⟩
  obtain ⟨h98, f98, r98, t98⟩ := q
  have o98 : ∀ b, b ≠ r → b ≠ r + 5 → mI M98 b = mI M0 b := fun b y1 y2 => by rw [f98.2.2.2.2.2.2 b (fun q => by have q' : b = r ∨ b = r + 5 := q; first | exact rin5 q' | exact nin5 (by assumption) (by assumption) q' | omega), h7 b y1 y2]
  have d98 : mI M98 r 5 = ((d0 + sdp M0 r (k + 1) : Nat) : Int) := by rw [r98, if_neg (by decide), h3' 5 (by decide) (by decide) (by decide) (by decide), gd]
  have i5 : mK M98 r = 4 ∧ i32 ((mI M98 r 5) - 1) := ⟨h98.2.1.1, by rw [d98]; exact ⟨by omega, by omega⟩⟩
  refine ⟨h98.1, ⟨fun _ => i5, fun _ => ⟨fun _ => i5, fun _ _ => i5⟩⟩, fun M110 e110 => ?_⟩
  -- the depth
  have D110 : RB M110 z r w T A B D N C n p O P K ∧ FI (rdS r p O P) M98 M110 ∧ (∀ i, i ≠ 5 → mI M110 r i = mI M98 r i) ∧ mI M110 r 5 = ((d0 + sdp M0 r k : Nat) : Int) ∧ ∀ b, b ≠ r → mI M110 b = mI M98 b := by
    by_cases y : o = 40 ∨ o = 41 ∨ o = 42
    · rw [if_pos y] at e110
      obtain ⟨x1, x2, x3, x4⟩ := rb_fld h98 i5.2 e110
      have cd : cdp o = 1 := gp_y y
      exact ⟨x1, x2, fun i hi => by rw [x3, if_neg hi], by rw [x3, if_pos rfl, d98, b4, cd]; omega, x4⟩
    · rw [if_neg y] at e110
      have cd : cdp o = 0 := gp_z ho y
      subst e110
      exact ⟨h98, FI.refl, fun _ _ => rfl, by rw [d98, b4, cd]; omega, fun _ _ => rfl⟩
  obtain ⟨h110, f110, r110, d110, o110⟩ := D110
  have X : ∀ b, b ≠ r → b ≠ r + 5 → mI M110 b = mI M0 b := fun b y1 y2 => by rw [o110 b y1, o98 b y1 y2]
  have R : ∀ i, i ≠ 3 → i ≠ 4 → i ≠ 5 → i ≠ 12 → i ≠ 14 → mI M110 r i = mI M0 r i := fun i i3 i4 i5 i12 i14 => by rw [r110 i i5, r98, if_neg i14, h3' i i3 i4 i12 i14]
  have R12 : mI M110 r 12 = k := by rw [r110 12 (by decide), r98, if_neg (by decide)]; exact h4
  have R14 : mI M110 r 14 = ((uw 0 + skk M0 r k : Nat) : Int) := by rw [r110 14 (by decide), r98, if_pos rfl]; omega
  have R3 : mI M0 r 3 ≠ 0 → mI M110 r 3 = mI M0 r 3 := fun q => by rw [r110 3 (by decide), r98, if_neg (by decide)]; exact h6 q
  have T5 : ∀ j, mI M110 (r + 5) j = 0 ∨ mI M110 (r + 5) j = 1 := fun j => by
    rw [o110 (r + 5) (by omega), t98]
    split
    · exact h3
    · exact h8 j
  have F110 : FI (rdS r p O P) M0 M110 := (h2.trans (f98.mono (fun b q => Or.inl (by have q' : b = r ∨ b = r + 5 := q; first | exact rin5 q' | exact nin5 (by assumption) (by assumption) q' | omega)))).trans f110
  have hJ : gJ M0 z r w T A B D N C n p O P K d0 k M110 := ⟨h110, F110, R, ⟨R12, R14, d110⟩, R3, X, T5⟩
  have G5 : ∀ i, mI M110 (r + 5) i = if i = skk M0 r k then l3 else mI M0 (r + 5) i := fun i => by rw [o110 (r + 5) (by omega), t98, hx5]
  have GD : mI M110 r 5 = mI M0 r 5 - cdp o := by rw [d110, gd, b4]; omega
  have GF : Fqq M0 r v9 M110 := hxf.later (by rw [r110 3 (by decide), r98, if_neg (by decide)]) (by rw [r110 4 (by decide), r98, if_neg (by decide)])
  obtain ⟨-, ⟨k0, ⟨q8, q9, q10, -⟩, ⟨kk1, kk2, kk3, -⟩, ⟨nn1, nn2, nn3, -⟩⟩, ⟨rw0, rp0⟩, -, hPK, -⟩ := id h110
  obtain ⟨pk1, ⟨pk2, pk3⟩, ⟨pk4, pk5, pk6, pk7⟩, -, -, pkC, -⟩ := id hPK
  rw [q10, q9, R12, Int.toNat_natCast, nn3, nn2, rp0, pk3, pk7, X (r + 3) (by omega) (by omega), X (r + 2) (by omega) (by omega), X p (by first | exact op | exact off0 op | exact off9 op (by decide) | exact off4 op | exact fun q => e1 q.symm | exact fun q => e2 q.symm | omega) (by first | exact op | exact off0 op | exact off9 op (by decide) | exact off4 op | exact fun q => e1 q.symm | exact fun q => e2 q.symm | omega), g4]
  refine ⟨h110.1, k0, kk3, by omega, fun y => ⟨kk2, by omega, pk1, ?_⟩, fun y => ⟨pk1, by omega, pk5, ?_⟩⟩
  · -- an order
    have nj : ¬ jm o := fun q => by obtain ⟨t, t1, -⟩ := en5 q; omega
    have no3 : (19 ≤ o ∧ o ≤ 29) ∨ o = 40 ∨ o = 41 := gp_n ho nj
    refine (s_Pr_add (n := L) io ((hb0.1 _ _).1) h110.1 hPK (by rw [X p (by first | exact op | exact off0 op | exact off9 op (by decide) | exact off4 op | exact fun q => e1 q.symm | exact fun q => e2 q.symm | omega) (by first | exact op | exact off0 op | exact off9 op (by decide) | exact off4 op | exact fun q => e1 q.symm | exact fun q => e2 q.symm | omega)]; exact g4) (by omega)).mono (fun x M126 q => ?_)
    obtain ⟨ex, o126, f126, p126, q126, u126⟩ := q
    exact ⟨by rw [ex]; exact ⟨by omega, by omega⟩, o126, k_RR_group_362 o126 ⟨gr_ord g hb0 hop no3 hJ o126 f126 p126 q126 u126, gE_ord hb0 hop nj R12 GD R14 X G5 GF f126 p126 q126 u126⟩⟩
  · -- a jump is settled
    have yj : jm o := Classical.byContradiction (fun q => y (en6 q))
    obtain ⟨t, t1, t2, t3, t4, t5, t6⟩ := en5 yj
    rw [t1, Int.toNat_natCast]
    refine ⟨by omega, fun M133 e133 => ?_⟩
    have o133 : mOk M133 := by rw [e133]; exact mOk_UI h110.1 ⟨by omega, by omega⟩
    exact k_RR_group_362 o133 ⟨gr_jmp g hb0 hop yj (gp_3 ho) hJ t1 t2 t3 t4 t5 o133 e133, gE_jmp hb0 hop yj R12 GD R14 X G5 GF g4 t1 e133⟩

end
end
