section
section
variable {G : mG} {d z r w T A B D N C n p O P K k a s L V F d0 c : Nat} {M0 M M' M1 M2 M110 M126 M133 : mM} {H H' : Nat → Nat} {ns : Nat → Int} {wt : Int}
set_option maxHeartbeats 2000000 in
theorem x_RR_takeSign {o : Int} (h : RB M z r w T A B D N C n p O P K) (g : RG M r p O P n s V F ns d0 H L k a 0) (ho : 19 ≤ o ∧ o ≤ 31) (han : a < n) (ht : 0 < k → lvl (mI M (r + 1) (k - 1)) < (if lvl o = 4 then 5 else lvl o)) : Ci G y_RR_takeSign (d + 1) [vr r, vi o, vi (lvl o)] M (fun x M' => sgQ M z r w T A B D N C n p O P K s V F ns d0 H L k a x M' ∧ sgE M r p O P B k L a o x M') := by
  have rm := g.room
  obtain ⟨oO, oP, op, e1, e2, e3⟩ := h.off
  have hwN := h.2.2.2.1.2.2.1
  have hN := h.2.2.2.1.1.2.2.2.2.2.2.1
  have hK := h.2.2.2.2.2.2
  have lb := lvl_b o
  have rl := rk_lvl o
  have cd : cdp o = 0 := by unfold cdp; rw [if_neg (gp_e ho)]
  have r1 : 1 ≤ rkk o := by unfold rkk; (repeat' split) <;> omega
  have ck : ckk o = 1 := by unfold ckk; rw [if_pos ho]
  obtain ⟨⟨g1, g2, g3, g4⟩, -, -, gc, ⟨gd, gd4⟩, -, -, -, -, gL, gt⟩ := id g
  obtain ⟨-, ⟨k0, ⟨q8, -⟩, ⟨kk1, -⟩, ⟨nn1, -⟩⟩, ⟨-, rp1⟩, -, hPK, -⟩ := id h
  have u0 : uw 0 = 1 := rfl
  -- the sign is put
  have put : (0 < k → rkk (mI M (r + 1) (k - 1)) < rkk o) → ¬ cmp2 M r k o → Ci G y_RR_here d [vr r] M (fun x8 M7 => i32 x8 ∧ mOk M7 ∧ ((((o = 30) ∨ (o = 31)) → (mK M7 r = 4 ∧ mK M7 (mR M7 r 1) = 6 ∧ Ci G y_Pr_add d [vr (mR M7 r 1), vi o, vi 0] M7 (fun x19 M18 => i32 x19 ∧ mOk M18 ∧ (mK M18 r = 4 ∧ Cv G y_RR_push d [vr r, vi o, vi x8, vi x19] M18 (fun M22 => mOk M22 ∧ ((sgQ M z r w T A B D N C n p O P K s V F ns d0 H L k a 0 M22 ∧ sgE M r p O P B k L a o 0 M22))))))) ∧ (¬ ((o = 30) ∨ (o = 31)) → (mK M7 r = 4 ∧ Cv G y_RR_push d [vr r, vi o, vi x8, vi (-1)] M7 (fun M27 => mOk M27 ∧ ((sgQ M z r w T A B D N C n p O P K s V F ns d0 H L k a 0 M27 ∧ sgE M r p O P B k L a o 0 M27))))))) := fun hrk hnd => by
    have lv := g.lvl (o := o) (Or.inr ⟨cd, r1, hrk⟩)
    refine (s_RR_here h g1 (by omega)).mono (fun x8 M7 q => ?_)
    obtain ⟨e7, x8v, x0, x1⟩ := q
    subst e7
    refine ⟨i32s (by omega) (by omega), h.1, fun y => ?_, fun y => ?_⟩
    · rw [rp1]
      refine ⟨k0, hPK.1, (s_Pr_add (n := L) (i32s (by omega) (by omega)) (i32s (by omega) (by omega)) h.1 hPK g4 (by omega)).mono (fun x19 M18 q => ?_)⟩
      obtain ⟨ex, o18, f18, p18, q18, u18⟩ := q
      have f18' : FI (rdS r p O P) M7 M18 := f18.mono (fun b q => Or.inr q)
      have h18 := h.fi o18 f18'
      have Y : ∀ b, r ≤ b → b ≤ r + 9 → mI M18 b = mI M7 b := fun b y1 y2 => f18.2.2.2.2.2.2 b (fun q => by
        have q' : b = p ∨ b = O ∨ b = P := q
        first | exact off3 op oO oP (by assumption) (by assumption) q' | omega)
      refine ⟨⟨by omega, by omega⟩, o18, h18.2.1.1, (s_RR_push (k := k) (a := a) (i32s (by omega) (by omega)) (i32s (by omega) (by omega)) ⟨by omega, by omega⟩ h18 (by rw [Y r (by omega) (by omega)]; exact g2) (by omega) (by rw [Y r (by omega) (by omega)]; exact g1) (by omega)).mono (fun M22 q => ?_)⟩
      obtain ⟨h22, f22, r22, t1, t2, t3, t4⟩ := q
      have Z : ∀ b, (b < r ∨ r + 4 < b) → mI M22 b = mI M18 b := fun b hb => f22.2.2.2.2.2.2 b (fun q => by have q' : r ≤ b ∧ b ≤ r + 4 := q; omega)
      have f22' : FI (rdS r p O P) M18 M22 := f22.mono (fun b q => Or.inl (by have q' : r ≤ b ∧ b ≤ r + 4 := q; omega))
      have ZO : mI M22 O = mI M18 O := Z O (by first | exact oO | exact off0 oO | exact off9 oO (by decide) | exact off4 oO | exact e1 | exact e3 | omega)
      have Zp : mI M22 p = mI M18 p := Z p (by first | exact op | exact off0 op | exact off9 op (by decide) | exact off4 op | exact fun q => e1 q.symm | exact fun q => e2 q.symm | omega)
      refine ⟨h22.1, ⟨h22, f18'.trans f22', fun i i2 i5 i7 i12 i14 => by rw [r22, if_neg i2, if_neg i7, if_neg i12, Y r (by omega) (by omega)], fun i i6 i9 => by rw [Z (r + i) (by omega), Y (r + i) (by omega) (by omega)], fun i i2 => by rw [Z p (by first | exact op | exact off0 op | exact off9 op (by decide) | exact off4 op | exact fun q => e1 q.symm | exact fun q => e2 q.symm | omega), p18, if_neg i2], fun i hi => ⟨by rw [Z O (by first | exact oO | exact off0 oO | exact off9 oO (by decide) | exact off4 oO | exact e1 | exact e3 | omega), q18, if_neg (by omega)], by rw [Z P (by first | exact oP | exact off0 oP | exact off9 oP (by decide) | exact off4 oP | exact e2 | exact fun q => e3 q.symm | omega), u18, if_neg (by omega)]⟩, Or.inr ⟨rfl, ?_⟩⟩, Or.inr ⟨rfl, hnd, by rw [if_pos y, ← x8v, ← ex]; exact pshE.of r22 t1 t2 t3 t4 Z Y, fun _ => ⟨fun i => by rw [ZO, q18], by rw [Zp, p18, if_pos rfl]⟩, fun q => absurd y q⟩⟩
      obtain ⟨H', gg, hh⟩ := g.pshj (M' := M22) (o := o) (pl := x8) (mk := 0) (dd := d0 + sdp M7 r k) (c' := skk M7 r k + 1) (fun i => by
        rw [r22, Y r (by omega) (by omega)]
        by_cases y5 : i = 5
        · subst y5
          rw [if_neg (by decide), if_neg (by decide), if_neg (by decide), if_neg (by decide), if_neg (by decide), if_neg (by decide), if_pos rfl]
          exact gd
        · by_cases y14 : i = 14
          · subst y14
            rw [if_neg (by decide), if_neg (by decide), if_neg (by decide), if_neg (by decide), if_neg (by decide), if_neg (by decide), if_neg (by decide), if_pos rfl, gc]
            omega
          · rw [if_neg y5, if_neg y14]) (fun i => by rw [t1, Y (r + 1) (by omega) (by omega)]) (fun i => by rw [t2, Y (r + 2) (by omega) (by omega)]) (fun i => by rw [t3, Y (r + 3) (by omega) (by omega), ex]) (fun i => by rw [t4, Y (r + 4) (by omega) (by omega)]) (fun j => by rw [Z (r + 5) (by omega), Y (r + 5) (by omega) (by omega)]; exact gt j) (by rw [Z p (by first | exact op | exact off0 op | exact off9 op (by decide) | exact off4 op | exact fun q => e1 q.symm | exact fun q => e2 q.symm | omega), p18, if_pos rfl]) (fun i => by rw [Z O (by first | exact oO | exact off0 oO | exact off9 oO (by decide) | exact off4 oO | exact e1 | exact e3 | omega), q18]) (fun i => by rw [Z P (by first | exact oP | exact off0 oP | exact off9 oP (by decide) | exact off4 oP | exact e2 | exact fun q => e3 q.symm | omega), u18]) (by omega) ⟨x0, x1⟩ ⟨by omega, by omega⟩ (by omega) gd4 lv (by omega) han (fun q => absurd q (by omega))
      exact ⟨H', L + 1, gg, by omega, hh⟩
    · refine ⟨k0, (s_RR_push (k := k) (a := a) (i32s (by omega) (by omega)) (i32s (by omega) (by omega)) ⟨by omega, by omega⟩ h g2 (by omega) g1 (by omega)).mono (fun M22 q => ?_)⟩
      obtain ⟨h22, f22, r22, t1, t2, t3, t4⟩ := q
      have Z : ∀ b, (b < r ∨ r + 4 < b) → mI M22 b = mI M7 b := fun b hb => f22.2.2.2.2.2.2 b (fun q => by have q' : r ≤ b ∧ b ≤ r + 4 := q; omega)
      have f22' : FI (rdS r p O P) M7 M22 := f22.mono (fun b q => Or.inl (by have q' : r ≤ b ∧ b ≤ r + 4 := q; omega))
      refine ⟨h22.1, ⟨h22, f22', fun i i2 i5 i7 i12 i14 => by rw [r22, if_neg i2, if_neg i7, if_neg i12], fun i i6 i9 => Z (r + i) (by omega), fun i i2 => by rw [Z p (by first | exact op | exact off0 op | exact off9 op (by decide) | exact off4 op | exact fun q => e1 q.symm | exact fun q => e2 q.symm | omega)], fun i hi => ⟨by rw [Z O (by first | exact oO | exact off0 oO | exact off9 oO (by decide) | exact off4 oO | exact e1 | exact e3 | omega)], by rw [Z P (by first | exact oP | exact off0 oP | exact off9 oP (by decide) | exact off4 oP | exact e2 | exact fun q => e3 q.symm | omega)]⟩, Or.inr ⟨rfl, H, L, ?_, Nat.le_refl _, fun _ _ => rfl⟩⟩, Or.inr ⟨rfl, hnd, by rw [if_neg y, ← x8v]; exact pshE.of r22 t1 t2 t3 t4 Z (fun _ _ _ => rfl), fun q => absurd q y, fun _ => ⟨Z O (by first | exact oO | exact off0 oO | exact off9 oO (by decide) | exact off4 oO | exact e1 | exact e3 | omega), Z P (by first | exact oP | exact off0 oP | exact off9 oP (by decide) | exact off4 oP | exact e2 | exact fun q => e3 q.symm | omega), by rw [Z p (by first | exact op | exact off0 op | exact off9 op (by decide) | exact off4 op | exact fun q => e1 q.symm | exact fun q => e2 q.symm | omega)]; exact g4⟩⟩⟩
      exact g.psh (M' := M22) (o := o) (pl := x8) (dd := d0 + sdp M7 r k) (fun i => by
        rw [r22]
        by_cases y5 : i = 5
        · subst y5
          rw [if_neg (by decide), if_neg (by decide), if_neg (by decide), if_neg (by decide), if_neg (by decide), if_neg (by decide), if_pos rfl]
          exact gd
        · rw [if_neg y5]) t1 t2 t3 t4 (Z _ (by omega)) (Z p (by first | exact op | exact off0 op | exact off9 op (by decide) | exact off4 op | exact fun q => e1 q.symm | exact fun q => e2 q.symm | omega)) (Z O (by first | exact oO | exact off0 oO | exact off9 oO (by decide) | exact off4 oO | exact e1 | exact e3 | omega)) (Z P (by first | exact oP | exact off0 oP | exact off9 oP (by decide) | exact off4 oP | exact e2 | exact fun q => e3 q.symm | omega)) (by unfold opn; omega) (by unfold jm; omega) ⟨x0, x1⟩ (by omega) gd4 lv (by rw [ck]; rfl) (by unfold cm; rw [if_pos (by omega)]; rfl) han
  refine k_RR_takeSign h.1 (i32s (by omega) (by omega)) (i32s (by omega) (by omega)) ⟨fun _ => k0, fun y => ⟨k0, put (fun hk => ?_) (fun q => by have q1 := q.1; have q2 := q.2.1; omega)⟩, fun y => ⟨k0, ?_⟩⟩
  · have rt := rk_lvl (mI M (r + 1) (k - 1))
    have t := ht hk
    rw [if_neg (by omega)] at t
    omega
  · rw [q8, nn1, g2, show ((k : Int) - 1).toNat = k - 1 by first | rfl | omega]
    refine ⟨kk1, by omega, (s_RR_level (h.1 _ _).1 h.1).mono (fun x37 M36 q => ?_)⟩
    obtain ⟨e36, ex⟩ := q
    subst e36
    have lt := lvl_b (mI M36 (r + 1) (k - 1))
    refine ⟨i32s (by omega) (by omega), h.1, fun z4 => ⟨⟨h, FI.refl, fun _ _ _ _ _ _ => rfl, fun _ _ _ => rfl, fun _ _ => rfl, fun _ _ => ⟨rfl, rfl⟩, Or.inl ⟨rfl, rfl⟩⟩, Or.inl ⟨rfl, by omega, by omega, by rw [← ex]; exact z4⟩⟩, fun z4 => ⟨k0, put (fun hk => ?_) (fun q => z4 (ex.trans q.2.2))⟩⟩
    have rt := rk_lvl (mI M36 (r + 1) (k - 1))
    have t := ht hk
    rw [if_pos (by omega)] at t
    omega

end
end
