/-! The class's reader: signs and '?', exactly. -/
/-- a second comparison -/
def cmp2 (M : mM) (r k : Nat) (o : Int) : Prop := lvl o = 4 ∧ 0 < k ∧ lvl (mI M (r + 1) (k - 1)) = 4
/-- a sign's step -/
def sgE (M : mM) (r p O P B k L a : Nat) (o x : Int) (M' : mM) : Prop := (x = 2 ∧ cmp2 M r k o) ∨ (x = 0 ∧ ¬ cmp2 M r k o ∧ pshE M r k o (mI M B a) (if o = 30 ∨ o = 31 then (L : Int) else -1) 0 (mI M r 5) (mI M r 14) M' ∧ ((o = 30 ∨ o = 31) → (∀ i, mI M' O i = if i = L then o else mI M O i) ∧ mI M' p 2 = (L : Int) + 1) ∧ (¬ (o = 30 ∨ o = 31) → mI M' O = mI M O ∧ mI M' P = mI M P ∧ mI M' p 2 = L))
/-- the step of a '?' -/
def akE (M : mM) (r p O P B k kk L a : Nat) (x : Int) (M' : mM) : Prop := (x = 2 ∧ ¬ mI M r 5 < 40) ∨ (x = 0 ∧ mI M r 5 < 40 ∧ pshE M r k 33 (mI M B a) L (if mI M (r + 5) kk = 1 then 0 else 1) (mI M r 5 + 1) kk M' ∧ (∀ i, mI M' O i = if i = L then 33 else mI M O i) ∧ mI M' p 2 = (L : Int) + 1)
section RX4
variable {G : mG} {d z r w T A B D N C n p O P K k a s L V F d0 c : Nat} {M0 M M' M1 M2 M110 M126 M133 : mM} {H H' : Nat → Nat} {ns : Nat → Int} {wt : Int}

theorem pshE.of {M18 M22 : mM} {o pl od : Int} (r22 : ∀ i, mI M22 r i = if i = 2 then (a : Int) + 1 else if i = 7 then 1 else if i = 12 then (k : Int) + 1 else mI M18 r i) (t1 : ∀ i, mI M22 (r + 1) i = if i = k then o else mI M18 (r + 1) i) (t2 : ∀ i, mI M22 (r + 2) i = if i = k then pl else mI M18 (r + 2) i) (t3 : ∀ i, mI M22 (r + 3) i = if i = k then od else mI M18 (r + 3) i) (t4 : ∀ i, mI M22 (r + 4) i = if i = k then 0 else mI M18 (r + 4) i) (Z : ∀ b, (b < r ∨ r + 4 < b) → mI M22 b = mI M18 b) (Y : ∀ b, r ≤ b → b ≤ r + 9 → mI M18 b = mI M b) : pshE M r k o pl od 0 (mI M r 5) (mI M r 14) M22 := by
  have y0 := Y r (by omega) (by omega)
  have S22 : ∀ i, i ≠ 2 → i ≠ 7 → i ≠ 12 → mI M22 r i = mI M r i := fun i i2 i7 i12 => by rw [r22, if_neg i2, if_neg i7, if_neg i12, y0]
  exact ⟨⟨by rw [r22, if_neg (by decide), if_neg (by decide), if_pos rfl], S22 5 (by decide) (by decide) (by decide), S22 3 (by decide) (by decide) (by decide), S22 4 (by decide) (by decide) (by decide), S22 14 (by decide) (by decide) (by decide)⟩, fun i => by rw [t1, Y (r + 1) (by omega) (by omega)], fun i => by rw [t2, Y (r + 2) (by omega) (by omega)], fun i => by rw [t3, Y (r + 3) (by omega) (by omega)], fun i => by rw [t4, Y (r + 4) (by omega) (by omega)], by rw [Z (r + 5) (by omega), Y (r + 5) (by omega) (by omega)]⟩
set_option maxHeartbeats 2000000 in
theorem x_RR_takeSign {o : Int} (h : RB M z r w T A B D N C n p O P K) (g : RG M r p O P n s V F ns d0 H L k a 0) (ho : 19 ≤ o ∧ o ≤ 31) (han : a < n) (ht : 0 < k → lvl (mI M (r + 1) (k - 1)) < (if lvl o = 4 then 5 else lvl o)) : Ci G y_RR_takeSign (d + 1) [vr r, vi o, vi (lvl o)] M (fun x M' => sgQ M z r w T A B D N C n p O P K s V F ns d0 H L k a x M' ∧ sgE M r p O P B k L a o x M') := by
  have rm := g.room
  obtain ⟨oO, oP, op, e1, e2, e3⟩ := h.off
  have hwN := h.2.2.2.1.2.2.1
  have hN := h.2.2.2.1.1.2.2.2.2.2.2.1
  have hK := h.2.2.2.2.2.2
  have lb := lvl_b o
  have rl := rk_lvl o
  have cd : cdp o = 0 := by unfold cdp; rw [if_neg (by omega)]
  have r1 : 1 ≤ rkk o := by unfold rkk; (repeat' split) <;> omega
  have ck : ckk o = 1 := by unfold ckk; rw [if_pos ho]
  obtain ⟨⟨g1, g2, g3, g4⟩, -, -, gc, ⟨gd, gd4⟩, -, -, -, -, gL, gt⟩ := id g
  obtain ⟨-, ⟨k0, ⟨q8, -⟩, ⟨kk1, -⟩, ⟨nn1, -⟩⟩, ⟨-, rp1⟩, -, hPK, -⟩ := id h
  have u0 : uw 0 = 1 := rfl
  -- the sign is put
  have put : (0 < k → rkk (mI M (r + 1) (k - 1)) < rkk o) → ¬ cmp2 M r k o → Ci G y_RR_here d [vr r] M (fun x8 M7 => i32 x8 ∧ mOk M7 ∧ ((((o = 30) ∨ (o = 31)) → (mK M7 r = 4 ∧ mK M7 (mR M7 r 1) = 6 ∧ Ci G y_Pr_add d [vr (mR M7 r 1), vi o, vi 0] M7 (fun x19 M18 => i32 x19 ∧ mOk M18 ∧ (mK M18 r = 4 ∧ Cv G y_RR_push d [vr r, vi o, vi x8, vi x19] M18 (fun M22 => mOk M22 ∧ ((sgQ M z r w T A B D N C n p O P K s V F ns d0 H L k a 0 M22 ∧ sgE M r p O P B k L a o 0 M22))))))) ∧ (¬ ((o = 30) ∨ (o = 31)) → (mK M7 r = 4 ∧ Cv G y_RR_push d [vr r, vi o, vi x8, vi (-1)] M7 (fun M27 => mOk M27 ∧ ((sgQ M z r w T A B D N C n p O P K s V F ns d0 H L k a 0 M27 ∧ sgE M r p O P B k L a o 0 M27))))))) := fun hrk hnd => by
    have lv := g.lvl (o := o) (Or.inr ⟨cd, r1, hrk⟩)
    refine (s_RR_here h g1 (by omega)).mono (fun x8 M7 q => ?_)
    obtain ⟨e7, x8v, x0, x1⟩ := q
    subst e7
    refine ⟨i32s (by omega) (by omega), h.1, fun y => ?_, fun y => ?_⟩
    · rw [rp1]
      refine ⟨k0, hPK.1, (s_Pr_add (n := L) (i32s (by omega) (by omega)) (i32s (by omega) (by omega)) h.1 hPK g4 (by omega)).mono (fun x19 M18 q => ?_)⟩
      obtain ⟨ex, o18, f18, p18, q18, u18⟩ := q
      have f18' : FI (rdS r p O P) M7 M18 := f18.mono (fun b q => Or.inr q)
      have h18 := h.fi o18 f18'
      have Y : ∀ b, r ≤ b → b ≤ r + 9 → mI M18 b = mI M7 b := fun b y1 y2 => f18.2.2.2.2.2.2 b (fun q => by
        have q' : b = p ∨ b = O ∨ b = P := q
        omega)
      refine ⟨⟨by omega, by omega⟩, o18, h18.2.1.1, (s_RR_push (k := k) (a := a) (i32s (by omega) (by omega)) (i32s (by omega) (by omega)) ⟨by omega, by omega⟩ h18 (by rw [Y r (by omega) (by omega)]; exact g2) (by omega) (by rw [Y r (by omega) (by omega)]; exact g1) (by omega)).mono (fun M22 q => ?_)⟩
      obtain ⟨h22, f22, r22, t1, t2, t3, t4⟩ := q
      have Z : ∀ b, (b < r ∨ r + 4 < b) → mI M22 b = mI M18 b := fun b hb => f22.2.2.2.2.2.2 b (fun q => by have q' : r ≤ b ∧ b ≤ r + 4 := q; omega)
      have f22' : FI (rdS r p O P) M18 M22 := f22.mono (fun b q => Or.inl (by have q' : r ≤ b ∧ b ≤ r + 4 := q; omega))
      have ZO : mI M22 O = mI M18 O := Z O (by omega)
      have Zp : mI M22 p = mI M18 p := Z p (by omega)
      refine ⟨h22.1, ⟨h22, f18'.trans f22', fun i i2 i5 i7 i12 i14 => by rw [r22, if_neg i2, if_neg i7, if_neg i12, Y r (by omega) (by omega)], fun i i6 i9 => by rw [Z (r + i) (by omega), Y (r + i) (by omega) (by omega)], fun i i2 => by rw [Z p (by omega), p18, if_neg i2], fun i hi => ⟨by rw [Z O (by omega), q18, if_neg (by omega)], by rw [Z P (by omega), u18, if_neg (by omega)]⟩, Or.inr ⟨rfl, ?_⟩⟩, Or.inr ⟨rfl, hnd, by rw [if_pos y, ← x8v, ← ex]; exact pshE.of r22 t1 t2 t3 t4 Z Y, fun _ => ⟨fun i => by rw [ZO, q18], by rw [Zp, p18, if_pos rfl]⟩, fun q => absurd y q⟩⟩
      obtain ⟨H', gg, hh⟩ := g.pshj (M' := M22) (o := o) (pl := x8) (mk := 0) (dd := d0 + sdp M7 r k) (c' := skk M7 r k + 1) (fun i => by
        rw [r22, Y r (by omega) (by omega)]
        by_cases y5 : i = 5
        · subst y5
          rw [if_neg (by decide), if_neg (by decide), if_neg (by decide), if_neg (by decide), if_neg (by decide), if_neg (by decide), if_pos rfl]
          exact gd
        · by_cases y14 : i = 14
          · subst y14
            rw [if_neg (by decide), if_neg (by decide), if_neg (by decide), if_neg (by decide), if_neg (by decide), if_neg (by decide), if_neg (by decide), if_pos rfl, gc]
            omega
          · rw [if_neg y5, if_neg y14]) (fun i => by rw [t1, Y (r + 1) (by omega) (by omega)]) (fun i => by rw [t2, Y (r + 2) (by omega) (by omega)]) (fun i => by rw [t3, Y (r + 3) (by omega) (by omega), ex]) (fun i => by rw [t4, Y (r + 4) (by omega) (by omega)]) (fun j => by rw [Z (r + 5) (by omega), Y (r + 5) (by omega) (by omega)]; exact gt j) (by rw [Z p (by omega), p18, if_pos rfl]) (fun i => by rw [Z O (by omega), q18]) (fun i => by rw [Z P (by omega), u18]) (by omega) ⟨x0, x1⟩ ⟨by omega, by omega⟩ (by omega) gd4 lv (by omega) han (fun q => absurd q (by omega))
      exact ⟨H', L + 1, gg, by omega, hh⟩
    · refine ⟨k0, (s_RR_push (k := k) (a := a) (i32s (by omega) (by omega)) (i32s (by omega) (by omega)) ⟨by omega, by omega⟩ h g2 (by omega) g1 (by omega)).mono (fun M22 q => ?_)⟩
      obtain ⟨h22, f22, r22, t1, t2, t3, t4⟩ := q
      have Z : ∀ b, (b < r ∨ r + 4 < b) → mI M22 b = mI M7 b := fun b hb => f22.2.2.2.2.2.2 b (fun q => by have q' : r ≤ b ∧ b ≤ r + 4 := q; omega)
      have f22' : FI (rdS r p O P) M7 M22 := f22.mono (fun b q => Or.inl (by have q' : r ≤ b ∧ b ≤ r + 4 := q; omega))
      refine ⟨h22.1, ⟨h22, f22', fun i i2 i5 i7 i12 i14 => by rw [r22, if_neg i2, if_neg i7, if_neg i12], fun i i6 i9 => Z (r + i) (by omega), fun i i2 => by rw [Z p (by omega)], fun i hi => ⟨by rw [Z O (by omega)], by rw [Z P (by omega)]⟩, Or.inr ⟨rfl, H, L, ?_, Nat.le_refl _, fun _ _ => rfl⟩⟩, Or.inr ⟨rfl, hnd, by rw [if_neg y, ← x8v]; exact pshE.of r22 t1 t2 t3 t4 Z (fun _ _ _ => rfl), fun q => absurd q y, fun _ => ⟨Z O (by omega), Z P (by omega), by rw [Z p (by omega)]; exact g4⟩⟩⟩
      exact g.psh (M' := M22) (o := o) (pl := x8) (dd := d0 + sdp M7 r k) (fun i => by
        rw [r22]
        by_cases y5 : i = 5
        · subst y5
          rw [if_neg (by decide), if_neg (by decide), if_neg (by decide), if_neg (by decide), if_neg (by decide), if_neg (by decide), if_pos rfl]
          exact gd
        · rw [if_neg y5]) t1 t2 t3 t4 (Z _ (by omega)) (Z p (by omega)) (Z O (by omega)) (Z P (by omega)) (by unfold opn; omega) (by unfold jm; omega) ⟨x0, x1⟩ (by omega) gd4 lv (by rw [ck]; rfl) (by unfold cm; rw [if_pos (by omega)]; rfl) han
  refine k_RR_takeSign h.1 (i32s (by omega) (by omega)) (i32s (by omega) (by omega)) ⟨fun _ => k0, fun y => ⟨k0, put (fun hk => ?_) (fun q => by have q1 := q.1; have q2 := q.2.1; omega)⟩, fun y => ⟨k0, ?_⟩⟩
  · have rt := rk_lvl (mI M (r + 1) (k - 1))
    have t := ht hk
    rw [if_neg (by omega)] at t
    omega
  · rw [q8, nn1, g2, show ((k : Int) - 1).toNat = k - 1 by omega]
    refine ⟨kk1, by omega, (s_RR_level (h.1 _ _).1 h.1).mono (fun x37 M36 q => ?_)⟩
    obtain ⟨e36, ex⟩ := q
    subst e36
    have lt := lvl_b (mI M36 (r + 1) (k - 1))
    refine ⟨i32s (by omega) (by omega), h.1, fun z4 => ⟨⟨h, FI.refl, fun _ _ _ _ _ _ => rfl, fun _ _ _ => rfl, fun _ _ => rfl, fun _ _ => ⟨rfl, rfl⟩, Or.inl ⟨rfl, rfl⟩⟩, Or.inl ⟨rfl, by omega, by omega, by rw [← ex]; exact z4⟩⟩, fun z4 => ⟨k0, put (fun hk => ?_) (fun q => z4 (ex.trans q.2.2))⟩⟩
    have rt := rk_lvl (mI M36 (r + 1) (k - 1))
    have t := ht hk
    rw [if_pos (by omega)] at t
    omega

theorem x_RR_takeAsk (h : RB M z r w T A B D N C n p O P K) (g : RG M r p O P n s V F ns d0 H L k a 0) (han : a < n) (hat : 0 < k → lvl (mI M (r + 1) (k - 1)) = 0) : Ci G y_RR_takeAsk (d + 1) [vr r] M (fun x M' => sgQ M z r w T A B D N C n p O P K s V F ns d0 H L k a x M' ∧ akE M r p O P B k (skk M r k) L a x M') := by
  have rm := g.room
  obtain ⟨oO, oP, op, e1, e2, e3⟩ := h.off
  have hwN := h.2.2.2.1.2.2.1
  have hN := h.2.2.2.1.1.2.2.2.2.2.2.1
  have hK := h.2.2.2.2.2.2
  have cd : cdp 33 = 1 := rfl
  have ck : ckk 33 = 0 := rfl
  obtain ⟨⟨g1, g2, g3, g4⟩, -, -, gc, ⟨gd, gd4⟩, -, -, -, -, gL, gt⟩ := id g
  have u0 : uw 0 = 1 := rfl
  refine k_RR_takeAsk h.1 ⟨h.2.1.1, fun y => ⟨⟨h, FI.refl, fun _ _ _ _ _ _ => rfl, fun _ _ _ => rfl, fun _ _ => rfl, fun _ _ => ⟨rfl, rfl⟩, Or.inl ⟨rfl, rfl⟩⟩, Or.inl ⟨rfl, by omega⟩⟩, fun y => ⟨⟨by omega, by omega⟩, fun M8 e8 => ?_⟩⟩
  have d40 : d0 + sdp M r k < 40 := by omega
  obtain ⟨h8, f8, r8, n8⟩ := rb_fld h ⟨by omega, by omega⟩ e8
  refine (x_RR_popKind (c := skk M r k) h8 (by rw [r8, if_neg (by decide), gc]; omega) (by omega)).mono (fun x11 M10 q => ?_)
  obtain ⟨⟨hx, hx2⟩, h10, f10, r10⟩ := q
  have hx3 : x11 = mI M (r + 5) (skk M r k) := by rw [n8 (r + 5) (by omega)] at hx2; exact hx2 (gt _)
  have n10 : ∀ b, b ≠ r → mI M10 b = mI M b := fun b hb => by rw [f10.2.2.2.2.2.2 b hb, n8 b hb]
  have R10 : ∀ i, mI M10 r i = if i = 14 then ((skk M r k : Nat) : Int) else if i = 5 then ((d0 + sdp M r k + 1 : Nat) : Int) else mI M r i := fun i => by
    rw [r10]
    by_cases y14 : i = 14
    · rw [if_pos y14, if_pos y14]
    · rw [if_neg y14, if_neg y14, r8]
      by_cases y5 : i = 5
      · rw [if_pos y5, if_pos y5, gd]
        omega
      · rw [if_neg y5, if_neg y5]
  have F10 : FI (rdS r p O P) M M10 := f8.trans (f10.mono (fun b q => Or.inl ⟨by omega, by omega⟩))
  refine ⟨i32s (by omega) (by omega), h10.1, fun v14 e14 => ⟨h10.2.1.1, (s_RR_here (a := a) h10 (by rw [R10, if_neg (by decide), if_neg (by decide)]; exact g1) (by omega)).mono (fun x21 M20 q => ?_)⟩⟩
  obtain ⟨e20, x21v, x0, x1⟩ := q
  subst e20
  have b14 : v14 = 0 ∨ v14 = 1 := by rw [e14]; split <;> omega
  obtain ⟨-, -, ⟨-, rp1⟩, -, hPK, -⟩ := id h10
  rw [rp1]
  refine ⟨i32s (by omega) (by omega), h10.1, h10.2.1.1, hPK.1, (s_Pr_add (n := L) (i32s (by omega) (by omega)) (i32s (by omega) (by omega)) h10.1 hPK (by rw [n10 p (by omega)]; exact g4) (by omega)).mono (fun x26 M25 q => ?_)⟩
  obtain ⟨ex, o25, f25, p25, q25, u25⟩ := q
  have f25' : FI (rdS r p O P) M20 M25 := f25.mono (fun b q => Or.inr q)
  have h25 := h10.fi o25 f25'
  have Y : ∀ b, r ≤ b → b ≤ r + 9 → mI M25 b = mI M20 b := fun b y1 y2 => f25.2.2.2.2.2.2 b (fun q => by
    have q' : b = p ∨ b = O ∨ b = P := q
    omega)
  refine ⟨⟨by omega, by omega⟩, o25, h25.2.1.1, (s_RR_push (k := k) (a := a) (i32s (by omega) (by omega)) (i32s (by omega) (by omega)) ⟨by omega, by omega⟩ h25 (by rw [Y r (by omega) (by omega), R10, if_neg (by decide), if_neg (by decide)]; exact g2) (by omega) (by rw [Y r (by omega) (by omega), R10, if_neg (by decide), if_neg (by decide)]; exact g1) (by omega)).mono (fun M29 q => ?_)⟩
  obtain ⟨h29, f29, r29, t1, t2, t3, t4⟩ := q
  have Z : ∀ b, (b < r ∨ r + 4 < b) → mI M29 b = mI M25 b := fun b hb => f29.2.2.2.2.2.2 b (fun q => by have q' : r ≤ b ∧ b ≤ r + 4 := q; omega)
  have f29' : FI (rdS r p O P) M25 M29 := f29.mono (fun b q => Or.inl (by have q' : r ≤ b ∧ b ≤ r + 4 := q; omega))
  have e12 : mI M29 r 12 = (k : Int) + 1 := by rw [r29, if_neg (by decide), if_neg (by decide), if_pos rfl]
  obtain ⟨-, ⟨k0', ⟨-, -, -, q11, -⟩, ⟨-, -, -, kk4, -⟩, ⟨-, -, -, nn4, -⟩⟩, -⟩ := id h29
  rw [q11, nn4, e12, show ((k : Int) + 1 - 1).toNat = k by omega]
  refine ⟨h29.1, k0', kk4, by omega, fun M35 e35 => ?_⟩
  obtain ⟨h35, f35, g35, n35⟩ := rb_tab h29 (i := 4) (by omega) (by omega) (i32s (by omega) (by omega)) e35
  have W : ∀ b, (b < r ∨ r + 4 < b) → mI M35 b = mI M25 b := fun b hb => by rw [n35 b (by omega), Z b hb]
  have S35 : ∀ i, i ≠ 2 → i ≠ 5 → i ≠ 7 → i ≠ 12 → i ≠ 14 → mI M35 r i = mI M r i := fun i i2 i5 i7 i12 i14 => by rw [n35 r (by omega), r29, if_neg i2, if_neg i7, if_neg i12, Y r (by omega) (by omega), R10, if_neg i14, if_neg i5]
  have hB : mI M20 B = mI M B := n10 B (fun q => h.2.2.2.2.2.1.2.2 B (by omega) (by omega))
  refine ⟨⟨h35, ((F10.trans f25').trans f29').trans f35, fun i i2 i5 i7 i12 i14 => by rw [n35 r (by omega), r29, if_neg i2, if_neg i7, if_neg i12, Y r (by omega) (by omega), R10, if_neg i14, if_neg i5], fun i i6 i9 => by rw [W (r + i) (by omega), Y (r + i) (by omega) (by omega), n10 (r + i) (by omega)], fun i i2 => by rw [W p (by omega), p25, if_neg i2, n10 p (by omega)], fun i hi => ⟨by rw [W O (by omega), q25, if_neg (by omega), n10 O (by omega)], by rw [W P (by omega), u25, if_neg (by omega), n10 P (by omega)]⟩, Or.inr ⟨rfl, ?_⟩⟩, Or.inr ⟨rfl, by omega, ⟨⟨by rw [n35 r (by omega)]; exact e12, by rw [n35 r (by omega), r29, if_neg (by decide), if_neg (by decide), if_neg (by decide), Y r (by omega) (by omega), R10, if_neg (by decide), if_pos rfl, gd]; omega, S35 3 (by decide) (by decide) (by decide) (by decide) (by decide), S35 4 (by decide) (by decide) (by decide) (by decide) (by decide), by rw [n35 r (by omega), r29, if_neg (by decide), if_neg (by decide), if_neg (by decide), Y r (by omega) (by omega), R10, if_pos rfl]⟩, fun i => by rw [n35 (r + 1) (by omega), t1, Y (r + 1) (by omega) (by omega), n10 (r + 1) (by omega)], fun i => by rw [n35 (r + 2) (by omega), t2, Y (r + 2) (by omega) (by omega), n10 (r + 2) (by omega), x21v, hB], fun i => by rw [n35 (r + 3) (by omega), t3, Y (r + 3) (by omega) (by omega), n10 (r + 3) (by omega), ex], fun i => ?_, by rw [W (r + 5) (by omega), Y (r + 5) (by omega) (by omega), n10 (r + 5) (by omega)]⟩, fun i => by rw [W O (by omega), q25, n10 O (by omega)], by rw [W p (by omega), p25, if_pos rfl]⟩⟩
  rotate_left
  · rw [g35]
    by_cases yk : i = k
    · rw [if_pos yk, if_pos yk, e14, hx3]
      have := gt (skk M r k)
      (repeat' split) <;> omega
    · rw [if_neg yk, if_neg yk, t4, if_neg yk, Y (r + 4) (by omega) (by omega), n10 (r + 4) (by omega)]
  obtain ⟨H', gg, hh⟩ := g.pshj (M' := M35) (o := 33) (pl := x21) (mk := v14) (dd := d0 + sdp M r k + 1) (c' := skk M r k) (fun i => by
    rw [n35 r (by omega), r29, Y r (by omega) (by omega), R10]
    by_cases y5 : i = 5
    · subst y5
      rw [if_neg (by decide), if_neg (by decide), if_neg (by decide), if_neg (by decide), if_pos rfl, if_neg (by decide), if_neg (by decide), if_neg (by decide), if_pos rfl]
    · rw [if_neg y5, if_neg y5]) (fun i => by rw [n35 (r + 1) (by omega), t1, Y (r + 1) (by omega) (by omega), n10 (r + 1) (by omega)]) (fun i => by rw [n35 (r + 2) (by omega), t2, Y (r + 2) (by omega) (by omega), n10 (r + 2) (by omega)]) (fun i => by rw [n35 (r + 3) (by omega), t3, Y (r + 3) (by omega) (by omega), n10 (r + 3) (by omega), ex]) (fun i => by
    rw [g35]
    by_cases yk : i = k
    · rw [if_pos yk, if_pos yk]
    · rw [if_neg yk, if_neg yk, t4, if_neg yk, Y (r + 4) (by omega) (by omega), n10 (r + 4) (by omega)]) (fun j => by rw [W (r + 5) (by omega), Y (r + 5) (by omega) (by omega), n10 (r + 5) (by omega)]; exact gt j) (by rw [W p (by omega), p25, if_pos rfl]) (fun i => by rw [W O (by omega), q25, n10 O (by omega)]) (fun i => by rw [W P (by omega), u25, n10 P (by omega)]) (by omega) ⟨x0, x1⟩ ⟨by omega, by omega⟩ (by omega) (by omega) (g.lvl (Or.inl cd)) (by omega) han (fun _ _ j hj => by rw [n35 (r + 1) (by omega), t1, if_neg (by omega), Y (r + 1) (by omega) (by omega), n10 (r + 1) (by omega), show j = k - 1 by omega]; exact hat (by omega))
  exact ⟨H', L + 1, gg, by omega, hh⟩

end RX4
