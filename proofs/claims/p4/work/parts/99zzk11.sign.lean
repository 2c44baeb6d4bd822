/-! The class's reader of rules: signs between operands. -/
section RRS
variable {G : mG} {d z r w T A B D N C n p O P K k a s L V F d0 c : Nat} {M0 M M' M1 M2 : mM} {H H' : Nat → Nat} {ns : Nat → Int} {wt : Int}
theorem rk_lvl (o : Int) : ((lvl o = 0 ∨ lvl o = 3) ∧ rkk o = 0) ∨ (lvl o = 1 ∧ rkk o = 1) ∨ (lvl o = 2 ∧ rkk o = 2) ∨ (lvl o = 4 ∧ rkk o = 3) ∨ (lvl o = 5 ∧ rkk o = 4) ∨ (lvl o = 6 ∧ rkk o = 5) := by
  unfold lvl rkk
  (repeat' split) <;> omega
/-- an operation with an order of its own that may jump is open now -/
theorem RG.pshj {o pl mk : Int} {dd c' : Nat} (g : RG M r p O P n s V F ns d0 H L k a 0) (hr : ∀ i, mI M' r i = if i = 2 then (a : Int) + 1 else if i = 7 then 1 else if i = 12 then (k : Int) + 1 else if i = 5 then (dd : Int) else if i = 14 then (c' : Int) else mI M r i) (t1 : ∀ i, mI M' (r + 1) i = if i = k then o else mI M (r + 1) i) (t2 : ∀ i, mI M' (r + 2) i = if i = k then pl else mI M (r + 2) i) (t3 : ∀ i, mI M' (r + 3) i = if i = k then (L : Int) else mI M (r + 3) i) (t4 : ∀ i, mI M' (r + 4) i = if i = k then mk else mI M (r + 4) i) (t5 : ∀ j, mI M' (r + 5) j = 0 ∨ mI M' (r + 5) j = 1) (tp : mI M' p 2 = (L : Int) + 1) (tO : ∀ i, mI M' O i = if i = L then o else mI M O i) (tP : ∀ i, mI M' P i = if i = L then 0 else mI M P i) (ho : o = 30 ∨ o = 31 ∨ o = 33) (hpl : 0 ≤ pl ∧ pl ≤ 16384) (hmk : 0 ≤ mk ∧ mk ≤ 7) (hd : dd = d0 + sdp M r k + cdp o) (hd4 : dd ≤ 40) (hrk : k + 1 ≤ 6 * (sdp M r k + cdp o) + rkk o) (hc : c' = skk M r k + ckk o) (han : a < n) (hat : o = 33 → aO M' r k) : ∃ H', RG M' r p O P n s V F ns d0 H' (L + 1) (k + 1) (a + 1) 1 ∧ ∀ i, i ≤ L → H' i = H i := by
  obtain ⟨⟨g1, g2, g3, g4⟩, gw, ⟨ga, gs⟩, gc, ⟨gd, gd4⟩, gr, ge, ⟨gH, gHs⟩, gC, gL, gt⟩ := g
  have l1 : ∀ j, j < k → mI M' (r + 1) j = mI M (r + 1) j := fun j hj => by rw [t1, if_neg (by omega)]
  have l2 : ∀ j, j < k → mI M' (r + 2) j = mI M (r + 2) j := fun j hj => by rw [t2, if_neg (by omega)]
  have l3 : ∀ j, j < k → mI M' (r + 3) j = mI M (r + 3) j := fun j hj => by rw [t3, if_neg (by omega)]
  have l4 : ∀ j, j < k → mI M' (r + 4) j = mI M (r + 4) j := fun j hj => by rw [t4, if_neg (by omega)]
  have sm := fun i hi => sums_cg (M := M) (M' := M') (r := r) (k := k) l1 l4 i hi
  obtain ⟨b1, b2, b3, b4⟩ := sum_top M' r k
  rw [t1, if_pos rfl, (sm k (Nat.le_refl _)).2.1] at b2
  rw [t1, if_pos rfl, (sm k (Nat.le_refl _)).2.2.1] at b3
  rw [t1, if_pos rfl, (sm k (Nat.le_refl _)).2.2.2] at b4
  rw [t1, if_pos rfl, t4, if_pos rfl, (sm k (Nat.le_refl _)).1] at b1
  have u1 : uw 1 = 0 := rfl
  have u0 : uw 0 = 1 := rfl
  have c0 : cm o mk = 0 := by
    unfold cm
    rw [if_neg (by omega), if_neg (by omega)]
  have e0 : cee o = 0 := by
    unfold cee
    rw [if_neg (by omega)]
  have jo : jm o := by unfold jm; omega
  obtain ⟨H', hH'⟩ : ∃ H' : Nat → Nat, ∀ i, H' i = if i = L + 1 then bs M r k else H i := ⟨fun i => if i = L + 1 then bs M r k else H i, fun _ => rfl⟩
  have hHs : ∀ i, i ≤ L → H' i = H i := fun i hi => by rw [hH', if_neg (by omega)]
  have hHL : H' (L + 1) = bs M r k := by rw [hH', if_pos rfl]
  have hL0 := hHs L (Nat.le_refl _)
  refine ⟨H', ⟨⟨by rw [hr, if_pos rfl]; omega, by rw [hr, if_neg (by decide), if_neg (by decide), if_pos rfl]; omega, by rw [hr, if_neg (by decide), if_pos rfl], by rw [tp]; omega⟩, Or.inr rfl, ⟨by omega, by omega⟩, by rw [hr, if_neg (by decide), if_neg (by decide), if_neg (by decide), if_neg (by decide), if_pos rfl, b2]; omega, ⟨by rw [hr, if_neg (by decide), if_neg (by decide), if_neg (by decide), if_pos rfl, b4]; omega, by omega⟩, fun i hi => ?_, fun i hi => ?_, ⟨by omega, by omega⟩, ?_, by omega, t5⟩, hHs⟩
  · by_cases y : i = k
    · subst y
      rw [b4, t1, if_pos rfl]
      exact hrk
    · rw [(sm (i + 1) (by omega)).2.2.2, l1 i (by omega)]
      exact gr i (by omega)
  · by_cases y : i = k
    · subst y
      unfold enO
      rw [t1, if_pos rfl, t2, if_pos rfl, t3, if_pos rfl, t4, if_pos rfl, (sm i (Nat.le_refl _)).1]
      refine ⟨by unfold opn; omega, hpl, hmk, fun q => absurd q (by omega), fun _ => ⟨L, rfl, gs, by omega, by rw [tO, if_pos rfl], by omega, fun _ => hHL⟩, fun q => absurd jo q, fun q => hat (by rw [t1, if_pos rfl] at q; omega) q⟩
    · exact (ge i (by omega)).cg (fun j hj => l1 j (by omega)) (l2 i (by omega)) (l3 i (by omega)) (fun j hj => l4 j (by omega)) (by omega) (fun j hj => by rw [tO, if_neg (by omega)]) hHs
  · refine gC.add gs hHs gHs tO tP (fun i _ q => pdg_cg q (by omega) l1 l3) (Or.inr (Or.inr (Or.inr (Or.inl ⟨ho, by omega⟩)))) (fun _ => Or.inl ⟨k, by omega, by rw [t3, if_pos rfl], by rw [t1, if_pos rfl]; exact jo⟩)
/-- what a sign comes to -/
def sgQ (M : mM) (z r w T A B D N C n p O P K s V F : Nat) (ns : Nat → Int) (d0 : Nat) (H : Nat → Nat) (L k a : Nat) (x : Int) (M' : mM) : Prop := RB M' z r w T A B D N C n p O P K ∧ FI (rdS r p O P) M M' ∧ (∀ i, i ≠ 2 → i ≠ 5 → i ≠ 7 → i ≠ 12 → i ≠ 14 → mI M' r i = mI M r i) ∧ (∀ i, 6 ≤ i → i ≤ 9 → mI M' (r + i) = mI M (r + i)) ∧ (∀ i, i ≠ 2 → mI M' p i = mI M p i) ∧ (∀ i, i < L → mI M' O i = mI M O i ∧ mI M' P i = mI M P i) ∧ ((x = 2 ∧ M' = M) ∨ (x = 0 ∧ ∃ H' L', RG M' r p O P n s V F ns d0 H' L' (k + 1) (a + 1) 1 ∧ L ≤ L' ∧ ∀ i, i ≤ L → H' i = H i))
theorem s_RR_takeSign {o : Int} (h : RB M z r w T A B D N C n p O P K) (g : RG M r p O P n s V F ns d0 H L k a 0) (ho : 19 ≤ o ∧ o ≤ 31) (han : a < n) (ht : 0 < k → lvl (mI M (r + 1) (k - 1)) < (if lvl o = 4 then 5 else lvl o)) : Ci G y_RR_takeSign (d + 1) [vr r, vi o, vi (lvl o)] M (sgQ M z r w T A B D N C n p O P K s V F ns d0 H L k a) := by
  have rm := g.room
  obtain ⟨oO, oP, op, e1, e2, e3⟩ := h.off
  have hwN := h.2.2.2.1.2.2.1
  have hN := h.2.2.2.1.1.2.2.2.2.2.2.1
  have hK := h.2.2.2.2.2.2
  have lb := lvl_b o
  have rl := rk_lvl o
  have cd : cdp o = 0 := by unfold cdp; rw [if_neg (by omega)]
  have r1 : 1 ≤ rkk o := by unfold rkk; (repeat' split) <;> omega
  have ck : ckk o = 1 := by unfold ckk; rw [if_pos ho]
  obtain ⟨⟨g1, g2, g3, g4⟩, -, -, gc, ⟨gd, gd4⟩, -, -, -, -, gL, gt⟩ := id g
  obtain ⟨-, ⟨k0, ⟨q8, -⟩, ⟨kk1, -⟩, ⟨nn1, -⟩⟩, ⟨-, rp1⟩, -, hPK, -⟩ := id h
  have u0 : uw 0 = 1 := rfl
  -- the sign is put
  have put : (0 < k → rkk (mI M (r + 1) (k - 1)) < rkk o) → Ci G y_RR_here d [vr r] M (fun x8 M7 => i32 x8 ∧ mOk M7 ∧ ((((o = 30) ∨ (o = 31)) → (mK M7 r = 4 ∧ mK M7 (mR M7 r 1) = 6 ∧ Ci G y_Pr_add d [vr (mR M7 r 1), vi o, vi 0] M7 (fun x19 M18 => i32 x19 ∧ mOk M18 ∧ (mK M18 r = 4 ∧ Cv G y_RR_push d [vr r, vi o, vi x8, vi x19] M18 (fun M22 => mOk M22 ∧ (sgQ M z r w T A B D N C n p O P K s V F ns d0 H L k a 0 M22)))))) ∧ (¬ ((o = 30) ∨ (o = 31)) → (mK M7 r = 4 ∧ Cv G y_RR_push d [vr r, vi o, vi x8, vi (-1)] M7 (fun M27 => mOk M27 ∧ (sgQ M z r w T A B D N C n p O P K s V F ns d0 H L k a 0 M27)))))) := fun hrk => by
    have lv := g.lvl (o := o) (Or.inr ⟨cd, r1, hrk⟩)
    refine (s_RR_here h g1 (by omega)).mono (fun x8 M7 q => ?_)
    obtain ⟨e7, -, x0, x1⟩ := q
    subst e7
    refine ⟨i32s (by omega) (by omega), h.1, fun y => ?_, fun y => ?_⟩
    · rw [rp1]
      refine ⟨k0, hPK.1, (s_Pr_add (n := L) (i32s (by omega) (by omega)) (i32s (by omega) (by omega)) h.1 hPK g4 (by omega)).mono (fun x19 M18 q => ?_)⟩
      obtain ⟨ex, o18, f18, p18, q18, u18⟩ := q
      have f18' : FI (rdS r p O P) M7 M18 := f18.mono (fun b q => Or.inr q)
      have h18 := h.fi o18 f18'
      have Y : ∀ b, r ≤ b → b ≤ r + 9 → mI M18 b = mI M7 b := fun b y1 y2 => f18.2.2.2.2.2.2 b (fun q => by
        have q' : b = p ∨ b = O ∨ b = P := q
        omega)
      refine ⟨⟨by omega, by omega⟩, o18, h18.2.1.1, (s_RR_push (k := k) (a := a) (i32s (by omega) (by omega)) (i32s (by omega) (by omega)) ⟨by omega, by omega⟩ h18 (by rw [Y r (by omega) (by omega)]; exact g2) (by omega) (by rw [Y r (by omega) (by omega)]; exact g1) (by omega)).mono (fun M22 q => ?_)⟩
      obtain ⟨h22, f22, r22, t1, t2, t3, t4⟩ := q
      have Z : ∀ b, (b < r ∨ r + 4 < b) → mI M22 b = mI M18 b := fun b hb => f22.2.2.2.2.2.2 b (fun q => by have q' : r ≤ b ∧ b ≤ r + 4 := q; omega)
      have f22' : FI (rdS r p O P) M18 M22 := f22.mono (fun b q => Or.inl (by have q' : r ≤ b ∧ b ≤ r + 4 := q; omega))
      refine ⟨h22.1, h22, f18'.trans f22', fun i i2 i5 i7 i12 i14 => by rw [r22, if_neg i2, if_neg i7, if_neg i12, Y r (by omega) (by omega)], fun i i6 i9 => by rw [Z (r + i) (by omega), Y (r + i) (by omega) (by omega)], fun i i2 => by rw [Z p (by omega), p18, if_neg i2], fun i hi => ⟨by rw [Z O (by omega), q18, if_neg (by omega)], by rw [Z P (by omega), u18, if_neg (by omega)]⟩, Or.inr ⟨rfl, ?_⟩⟩
      obtain ⟨H', gg, hh⟩ := g.pshj (M' := M22) (o := o) (pl := x8) (mk := 0) (dd := d0 + sdp M7 r k) (c' := skk M7 r k + 1) (fun i => by
        rw [r22, Y r (by omega) (by omega)]
        by_cases y5 : i = 5
        · subst y5
          rw [if_neg (by decide), if_neg (by decide), if_neg (by decide), if_neg (by decide), if_neg (by decide), if_neg (by decide), if_pos rfl]
          exact gd
        · by_cases y14 : i = 14
          · subst y14
            rw [if_neg (by decide), if_neg (by decide), if_neg (by decide), if_neg (by decide), if_neg (by decide), if_neg (by decide), if_neg (by decide), if_pos rfl, gc]
            omega
          · rw [if_neg y5, if_neg y14]) (fun i => by rw [t1, Y (r + 1) (by omega) (by omega)]) (fun i => by rw [t2, Y (r + 2) (by omega) (by omega)]) (fun i => by rw [t3, Y (r + 3) (by omega) (by omega), ex]) (fun i => by rw [t4, Y (r + 4) (by omega) (by omega)]) (fun j => by rw [Z (r + 5) (by omega), Y (r + 5) (by omega) (by omega)]; exact gt j) (by rw [Z p (by omega), p18, if_pos rfl]) (fun i => by rw [Z O (by omega), q18]) (fun i => by rw [Z P (by omega), u18]) (by omega) ⟨x0, x1⟩ ⟨by omega, by omega⟩ (by omega) gd4 lv (by omega) han (fun q => absurd q (by omega))
      exact ⟨H', L + 1, gg, by omega, hh⟩
    · refine ⟨k0, (s_RR_push (k := k) (a := a) (i32s (by omega) (by omega)) (i32s (by omega) (by omega)) ⟨by omega, by omega⟩ h g2 (by omega) g1 (by omega)).mono (fun M22 q => ?_)⟩
      obtain ⟨h22, f22, r22, t1, t2, t3, t4⟩ := q
      have Z : ∀ b, (b < r ∨ r + 4 < b) → mI M22 b = mI M7 b := fun b hb => f22.2.2.2.2.2.2 b (fun q => by have q' : r ≤ b ∧ b ≤ r + 4 := q; omega)
      have f22' : FI (rdS r p O P) M7 M22 := f22.mono (fun b q => Or.inl (by have q' : r ≤ b ∧ b ≤ r + 4 := q; omega))
      refine ⟨h22.1, h22, f22', fun i i2 i5 i7 i12 i14 => by rw [r22, if_neg i2, if_neg i7, if_neg i12], fun i i6 i9 => Z (r + i) (by omega), fun i i2 => by rw [Z p (by omega)], fun i hi => ⟨by rw [Z O (by omega)], by rw [Z P (by omega)]⟩, Or.inr ⟨rfl, H, L, ?_, Nat.le_refl _, fun _ _ => rfl⟩⟩
      exact g.psh (M' := M22) (o := o) (pl := x8) (dd := d0 + sdp M7 r k) (fun i => by
        rw [r22]
        by_cases y5 : i = 5
        · subst y5
          rw [if_neg (by decide), if_neg (by decide), if_neg (by decide), if_neg (by decide), if_neg (by decide), if_neg (by decide), if_pos rfl]
          exact gd
        · rw [if_neg y5]) t1 t2 t3 t4 (Z _ (by omega)) (Z p (by omega)) (Z O (by omega)) (Z P (by omega)) (by unfold opn; omega) (by unfold jm; omega) ⟨x0, x1⟩ (by omega) gd4 lv (by rw [ck]; rfl) (by unfold cm; rw [if_pos (by omega)]; rfl) han
  refine k_RR_takeSign h.1 (i32s (by omega) (by omega)) (i32s (by omega) (by omega)) ⟨fun _ => k0, fun y => ⟨k0, put (fun hk => ?_)⟩, fun y => ⟨k0, ?_⟩⟩
  · have rt := rk_lvl (mI M (r + 1) (k - 1))
    have t := ht hk
    rw [if_neg (by omega)] at t
    omega
  · rw [q8, nn1, g2, show ((k : Int) - 1).toNat = k - 1 by omega]
    refine ⟨kk1, by omega, (s_RR_level (h.1 _ _).1 h.1).mono (fun x37 M36 q => ?_)⟩
    obtain ⟨e36, ex⟩ := q
    subst e36
    have lt := lvl_b (mI M36 (r + 1) (k - 1))
    refine ⟨i32s (by omega) (by omega), h.1, fun _ => ⟨h, FI.refl, fun _ _ _ _ _ _ => rfl, fun _ _ _ => rfl, fun _ _ => rfl, fun _ _ => ⟨rfl, rfl⟩, Or.inl ⟨rfl, rfl⟩⟩, fun z4 => ⟨k0, put (fun hk => ?_)⟩⟩
    have rt := rk_lvl (mI M36 (r + 1) (k - 1))
    have t := ht hk
    rw [if_pos (by omega)] at t
    omega
end RRS
