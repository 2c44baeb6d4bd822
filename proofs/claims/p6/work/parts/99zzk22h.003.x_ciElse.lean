section
variable {G : mG} {d z r w T A B D N C n p O P K k a s L V F d0 c : Nat} {M0 M M' M1 M2 M110 M126 M133 : mM} {H H' : Nat → Nat} {ns : Nat → Int} {wt : Int} {u : Ru} {c9 c8 L1 : Nat} {H1 : Nat → Nat}
theorem x_ciElse (h : RB M z r w T A B D N C n p O P K) (g : RG M r p O P n s V F ns d0 H L (k + 1) a 0) (han : a < n) (ho : mI M (r + 1) k = 33) (v : RW0 u M r O P s c9 c8 L a) (hw : ruW u a = 33) (hc9 : c9 ≤ 6) : mK M (r + 4) = 30 ∧ ((0 : Int) ≤ (k : Int) ∧ (k : Int) < (mN M (r + 4) : Int)) ∧ Ci G y_RR_popKind d [vr r] M (fun x40 M39 => i32 x40 ∧ mOk M39 ∧ (∀ v43 : Int, v43 = (if (x40 = 0) then 0 else 4) → mK M39 (r + 4) = 30 ∧ ((0 : Int) ≤ (k : Int) ∧ (k : Int) < (mN M39 (r + 4) : Int)) ∧ ∀ M49, M49 = mUI M39 (r + 4) k (orI (mI M (r + 4) k) v43) → mK M49 r = 4 ∧ mK M49 (mR M49 r 1) = 6 ∧ Ci G y_Pr_add d [vr (mR M49 r 1), vi 42, vi 0] M49 (fun x54 M53 => i32 x54 ∧ mOk M53 ∧ (mK M53 r = 4 ∧ mK M53 (mR M53 r 1) = 6 ∧ mK M53 (mR M53 r 10) = 30 ∧ ((0 : Int) ≤ (k : Int) ∧ (k : Int) < (mN M53 (mR M53 r 10) : Int)) ∧ mK M53 (mR M53 (mR M53 r 1) 1) = 30 ∧ ((0 : Int) ≤ mI M53 (mR M53 r 10) k ∧ mI M53 (mR M53 r 10) k < (mN M53 (mR M53 (mR M53 r 1) 1) : Int)) ∧ ∀ M62, M62 = mUI M53 (mR M53 (mR M53 r 1) 1) (Int.toNat (mI M53 (mR M53 r 10) k)) (mI M53 (mR M53 r 1) 2) → mK M62 (mR M62 r 10) = 30 ∧ ((0 : Int) ≤ (k : Int) ∧ (k : Int) < (mN M62 (mR M62 r 10) : Int)) ∧ ∀ M66, M66 = mUI M62 (mR M62 r 10) k x54 → mK M66 (mR M66 r 8) = 30 ∧ ((0 : Int) ≤ (k : Int) ∧ (k : Int) < (mN M66 (mR M66 r 8) : Int)) ∧ ∀ M70, M70 = mUI M66 (mR M66 r 8) k 42 → h_RR_closeInner_165 G d r k 0 1 M70 (fun x M' => cliQ M z r w T A B D N C n p O P K s V F ns d0 L a x M' ∧ clV u r p O P s a x M'))))) := by
  have rm := g.room
  have hwN := h.2.2.2.1.2.2.1
  have hN := h.2.2.2.1.1.2.2.2.2.2.2.1
  have hK := h.2.2.2.2.2.2
  obtain ⟨oO, oP, op, e1, e2, e3⟩ := h.off
  obtain ⟨b1, b2, b3, b4⟩ := sum_top M r k
  have u0 : uw 0 = 1 := rfl
  have z1 : cdp 33 = 1 := rfl
  have z2 : ckk 33 = 0 := rfl
  have z3 : cee 33 = 0 := rfl
  have z4 : ∀ m, cm 33 m = 0 := fun m => by unfold cm; rw [if_neg (by omega), if_neg (by omega)]
  have z5 : ∀ m, cm 42 m = 0 := fun m => by unfold cm; rw [if_neg (by omega), if_neg (by omega)]
  rw [ho] at b1 b2 b3 b4
  rw [z4] at b1
  obtain ⟨⟨g1, g2, g3, g4⟩, -, ⟨-, gs⟩, gc, ⟨gd, gd4⟩, -, ge, ⟨gH, gHs⟩, gC, gL, gt⟩ := id g
  have kk14 : mI M r 14 = ((skk M r k : Nat) : Int) + 1 := by rw [gc, b2, z2, u0]; omega
  have m01 : Hid (mI M (r + 4) k = 0 ∨ mI M (r + 4) k = 1) := v.m33 (k := k) hw hc9 (by rw [g2]; rfl) ho
  obtain ⟨en1, en2, en3, en4, en5, -, en7⟩ := ge k (by omega)
  obtain ⟨t, t1, t2, t3, t4, t5, t6⟩ := en5 (by rw [ho]; exact Or.inr (Or.inr (Or.inl rfl)))
  rw [ho] at t4
  have pl : ∀ {Mx : mM}, RB Mx z r w T A B D N C n p O P K → (mR Mx r 8 = r + 1 ∧ mR Mx r 10 = r + 3) ∧ (mK Mx (r + 1) = 30 ∧ mK Mx (r + 3) = 30 ∧ mK Mx (r + 4) = 30) ∧ (mN Mx (r + 1) = 336 ∧ mN Mx (r + 3) = 336 ∧ mN Mx (r + 4) = 336) ∧ (mR Mx r 1 = p ∧ mR Mx p 1 = P ∧ mK Mx P = 30 ∧ mN Mx P = K) := fun hx => by
    obtain ⟨-, ⟨-, ⟨a1, a2, a3, a4, -⟩, ⟨b1, b2, b3, b4, -⟩, ⟨c1, c2, c3, c4, -⟩⟩, ⟨-, r1⟩, -, ⟨-, ⟨-, p1⟩, ⟨-, p2, -, p3⟩, -⟩, -⟩ := hx
    exact ⟨⟨a1, a3⟩, ⟨b1, b3, b4⟩, ⟨c1, c3, c4⟩, r1, p1, p2, p3⟩
  refine ⟨(pl h).2.1.2.2, by rw [(pl h).2.2.1.2.2]; omega, (x_RR_popKind (c := skk M r k) h (by rw [gc, b2, z2]; omega) (by omega)).mono (fun x40 M39 q => ?_)⟩
  obtain ⟨⟨hx, hx2⟩, h39, f39, r39⟩ := q
  have hx3 := hx2 (gt _)
  clear hx2
  have n39 : ∀ b, b ≠ r → mI M39 b = mI M b := fun b hb => f39.2.2.2.2.2.2 b hb
  have f39' : FI (rdS r p O P) M M39 := f39.mono (fun b q => Or.inl ⟨by omega, by omega⟩)
  refine ⟨i32s (by omega) (by omega), h39.1, fun v43 e43 => ⟨(pl h39).2.1.2.2, by rw [(pl h39).2.2.1.2.2]; omega, fun M49 e49 => ?_⟩⟩
  have b43 : v43 = 0 ∨ v43 = 4 := by rw [e43]; split <;> omega
  have mb := mk_or4 en3 b43
  have m4 : Hid (orI (mI M (r + 4) k) v43 = mI M (r + 4) k + if mI M (r + 5) (skk M r k) = 1 then 4 else 0) := or_4 (v := v43) m01 (gt (skk M r k)) (by rw [← hx3]; exact e43)
  obtain ⟨h49, f49, g49, n49⟩ := rb_tab h39 (i := 4) (by omega) (by omega) (i32s (by omega) (by omega)) e49
  have hPK := h49.2.2.2.2.1
  rw [(pl h49).2.2.2.1]
  refine ⟨h49.2.1.1, hPK.1, (s_Pr_add (n := L) (i32s (by omega) (by omega)) (i32s (by omega) (by omega)) h49.1 hPK (by rw [n49 p (by first | exact op | exact off0 op | exact off9 op (by decide) | exact off4 op | exact fun q => e1 q.symm | exact fun q => e2 q.symm | omega), n39 p (by first | exact op | exact off0 op | exact off9 op (by decide) | exact off4 op | exact fun q => e1 q.symm | exact fun q => e2 q.symm | omega)]; exact g4) (by omega)).mono (fun x54 M53 q => ?_)⟩
  obtain ⟨ex, o53, f53, p53, q53, u53⟩ := q
  have f53' : FI (rdS r p O P) M49 M53 := f53.mono (fun b q => Or.inr q)
  have h53 := h49.fi o53 f53'
  have Y : ∀ b, r ≤ b → b ≤ r + 9 → mI M53 b = mI M49 b := fun b y1 y2 => f53.2.2.2.2.2.2 b (fun q => by
    have q' : b = p ∨ b = O ∨ b = P := q
    first | exact off3 op oO oP (by assumption) (by assumption) q' | omega)
  have o3 : mI M53 (r + 3) k = t := by rw [Y (r + 3) (by omega) (by omega), n49 (r + 3) (by omega), n39 (r + 3) (by omega)]; exact t1
  have KK := hPK.2.2.2.2.2.1
  rw [(pl h53).2.2.2.1, (pl h53).1.2, (pl h53).2.2.2.2.1, (pl h53).2.2.2.2.2.2, (pl h53).2.2.1.2.1, o3, Int.toNat_natCast, p53, if_pos rfl]
  refine ⟨⟨by omega, by omega⟩, o53, h53.2.1.1, h53.2.2.2.2.1.1, (pl h53).2.1.2.1, by omega, (pl h53).2.2.2.2.2.1, by omega, fun M62 e62 => ?_⟩
  have f62 : FI (rdS r p O P) M53 M62 := by rw [e62]; exact FI.ui (Or.inr (Or.inr (Or.inr rfl)))
  have h62 := h53.fi (by rw [e62]; exact mOk_UI o53 ⟨by omega, by omega⟩) f62
  have n62 : ∀ b, b ≠ P → mI M62 b = mI M53 b := fun b hb => by rw [e62]; funext i; rw [mI_UI, if_neg (fun q => hb q.1)]
  rw [(pl h62).1.2, (pl h62).2.2.1.2.1]
  refine ⟨(pl h62).2.1.2.1, by omega, fun M66 e66 => ?_⟩
  obtain ⟨h66, f66, g66, n66⟩ := rb_tab h62 (i := 3) (by omega) (by omega) (by rw [ex]; exact ⟨by omega, by omega⟩) e66
  rw [(pl h66).1.1, (pl h66).2.2.1.1]
  refine ⟨(pl h66).2.1.1, by omega, fun M70 e70 => ?_⟩
  obtain ⟨h70, f70, g70, n70⟩ := rb_tab h66 (i := 1) (by omega) (by omega) (i32s (by omega) (by omega)) e70
  have r70 : mI M70 r = mI M39 r := by rw [n70 r (by omega), n66 r (by omega), n62 r (by first | exact fof0 oP | omega), Y r (by omega) (by omega), n49 r (by omega)]
  refine k_RR_closeInner_165 h70.1 ⟨by omega, by omega⟩ (i32s (by omega) (by omega)) (i32s (by omega) (by omega)) ⟨fun _ => ⟨fun _ => ⟨fun y => absurd y (by omega), fun _ => ?_⟩, fun y => absurd (Or.inl rfl) y⟩, fun y => absurd rfl y⟩
  refine s_ci286 (a := a) (Or.inr rfl) h70 (by rw [r70, r39, if_neg (by decide)]; exact g1) (by omega) (fun M' h' f' g' n' => ?_)
  have x1 : ∀ j, mI M' (r + 1) j = if j = k then 42 else mI M (r + 1) j := fun j => by
    rw [n' (r + 1) (by omega), g70, n66 (r + 1) (by omega), n62 (r + 1) (by first | exact fof9 oP (by decide) | omega), Y (r + 1) (by omega) (by omega), n49 (r + 1) (by omega), n39 (r + 1) (by omega)]
  have x2 : mI M' (r + 2) = mI M (r + 2) := by
    rw [n' (r + 2) (by omega), n70 (r + 2) (by omega), n66 (r + 2) (by omega), n62 (r + 2) (by first | exact fof9 oP (by decide) | omega), Y (r + 2) (by omega) (by omega), n49 (r + 2) (by omega), n39 (r + 2) (by omega)]
  have x3 : ∀ j, mI M' (r + 3) j = if j = k then (L : Int) else mI M (r + 3) j := fun j => by
    rw [n' (r + 3) (by omega), n70 (r + 3) (by omega), g66, n62 (r + 3) (by first | exact fof9 oP (by decide) | omega), Y (r + 3) (by omega) (by omega), n49 (r + 3) (by omega), n39 (r + 3) (by omega), ex]
  have x4 : ∀ j, mI M' (r + 4) j = if j = k then orI (mI M (r + 4) k) v43 else mI M (r + 4) j := fun j => by
    rw [n' (r + 4) (by omega), n70 (r + 4) (by omega), n66 (r + 4) (by omega), n62 (r + 4) (by first | exact fof9 oP (by decide) | omega), Y (r + 4) (by omega) (by omega), g49, n39 (r + 4) (by omega)]
  have x5 : ∀ i, 5 ≤ i → i ≤ 9 → mI M' (r + i) = mI M (r + i) := fun i i5 i9 => by
    rw [n' (r + i) (by omega), n70 (r + i) (by omega), n66 (r + i) (by omega), n62 (r + i) (by first | exact fof9 oP (by assumption) | omega), Y (r + i) (by omega) (by omega), n49 (r + i) (by omega), n39 (r + i) (by omega)]
  have xp : ∀ i, mI M' p i = if i = 2 then (L : Int) + 1 else mI M p i := fun i => by
    rw [n' p (by first | exact op | exact off0 op | exact off9 op (by decide) | exact off4 op | exact fun q => e1 q.symm | exact fun q => e2 q.symm | omega), n70 p (by first | exact op | exact off0 op | exact off9 op (by decide) | exact off4 op | exact fun q => e1 q.symm | exact fun q => e2 q.symm | omega), n66 p (by first | exact op | exact off0 op | exact off9 op (by decide) | exact off4 op | exact fun q => e1 q.symm | exact fun q => e2 q.symm | omega), n62 p (by first | exact op | exact off0 op | exact off9 op (by decide) | exact off4 op | exact fun q => e1 q.symm | exact fun q => e2 q.symm | omega), p53, n49 p (by first | exact op | exact off0 op | exact off9 op (by decide) | exact off4 op | exact fun q => e1 q.symm | exact fun q => e2 q.symm | omega), n39 p (by first | exact op | exact off0 op | exact off9 op (by decide) | exact off4 op | exact fun q => e1 q.symm | exact fun q => e2 q.symm | omega)]
  have xO : ∀ i, mI M' O i = mI M53 O i := fun i => by
    rw [n' O (by first | exact oO | exact off0 oO | exact off9 oO (by decide) | exact off4 oO | exact e1 | exact e3 | omega), n70 O (by first | exact oO | exact off0 oO | exact off9 oO (by decide) | exact off4 oO | exact e1 | exact e3 | omega), n66 O (by first | exact oO | exact off0 oO | exact off9 oO (by decide) | exact off4 oO | exact e1 | exact e3 | omega), n62 O (by first | exact oO | exact off0 oO | exact off9 oO (by decide) | exact off4 oO | exact e1 | exact e3 | omega)]
  have yO : ∀ i, mI M53 O i = if i = L then 42 else mI M O i := fun i => by rw [q53, n49 O (by first | exact oO | exact off0 oO | exact off9 oO (by decide) | exact off4 oO | exact e1 | exact e3 | omega), n39 O (by first | exact oO | exact off0 oO | exact off9 oO (by decide) | exact off4 oO | exact e1 | exact e3 | omega)]
  have yP : ∀ i, mI M53 P i = if i = L then 0 else mI M P i := fun i => by rw [u53, n49 P (by first | exact oP | exact off0 oP | exact off9 oP (by decide) | exact off4 oP | exact e2 | exact fun q => e3 q.symm | omega), n39 P (by first | exact oP | exact off0 oP | exact off9 oP (by decide) | exact off4 oP | exact e2 | exact fun q => e3 q.symm | omega)]
  have xP : ∀ i, mI M' P i = if i = t then (L : Int) + 1 else mI M53 P i := fun i => by
    rw [n' P (by first | exact oP | exact off0 oP | exact off9 oP (by decide) | exact off4 oP | exact e2 | exact fun q => e3 q.symm | omega), n70 P (by first | exact oP | exact off0 oP | exact off9 oP (by decide) | exact off4 oP | exact e2 | exact fun q => e3 q.symm | omega), n66 P (by first | exact oP | exact off0 oP | exact off9 oP (by decide) | exact off4 oP | exact e2 | exact fun q => e3 q.symm | omega), e62, mI_UI]
    by_cases y : i = t
    · rw [if_pos ⟨rfl, y⟩, if_pos y]
    · rw [if_neg (fun q => y q.2), if_neg y]
  have xr : ∀ i, mI M' r i = if i = 2 then (a : Int) + 1 else if i = 7 then 1 else if i = 14 then ((skk M r k : Nat) : Int) else mI M r i := fun i => by rw [g', r70, r39]
  refine ⟨⟨h', (((((f39'.trans f49).trans f53').trans f62).trans f66).trans f70).trans f', fun i i2 i3 i4 i5 i7 i12 i14 => by rw [xr, if_neg i2, if_neg i7, if_neg i14], fun _ => by rw [xr, if_neg (by decide), if_neg (by decide), if_neg (by decide)], fun i i6 i9 => x5 i (by omega) i9, fun i i2 => by rw [xp, if_neg i2], fun i hi => ⟨by rw [xO, yO, if_neg (by omega)], by rw [xP, if_neg (by omega), yP, if_neg (by omega)]⟩, Or.inr ⟨rfl, ?_⟩⟩, Or.inr ⟨rfl, fun L9 hL9 => ⟨fun q => absurd q (by rw [xr, if_neg (by decide), if_pos rfl]; decide), fun _ => ?_⟩⟩⟩
  rotate_left
  · have e9 : L9 = L + 1 := by rw [xp, if_pos rfl] at hL9; exact (Int.ofNat_inj.mp hL9).symm
    rw [e9]
    exact v.colon (k := k) (kk := skk M r k) (dd := t) hw hc9 (by rw [g2]; rfl) ho kk14 t1 (by rw [xr, if_neg (by decide), if_neg (by decide), if_neg (by decide), g2]; rfl) (by rw [xr, if_neg (by decide), if_neg (by decide), if_neg (by decide)]) (by rw [xr, if_neg (by decide), if_neg (by decide), if_neg (by decide)]) (by rw [xr, if_neg (by decide), if_neg (by decide), if_neg (by decide)]) (by rw [xr, if_neg (by decide), if_neg (by decide), if_pos rfl]) x1 x2 x3 (fun i => by rw [x4, show orI (mI M (r + 4) k) v43 = _ from m4]) (fun i _ => by rw [x5 5 (by decide) (by decide)]) (fun i => by rw [xO, yO]) (fun i hi => by rw [xP, yP, if_neg (Nat.ne_of_lt hi)])
  obtain ⟨H', hH'⟩ : ∃ H' : Nat → Nat, ∀ i, H' i = if i = L + 1 then bs M r k else H i := ⟨fun i => if i = L + 1 then bs M r k else H i, fun _ => rfl⟩
  have hHs : ∀ i, i ≤ L → H' i = H i := fun i hi => by rw [hH', if_neg (by omega)]
  have hHL : H' (L + 1) = bs M r k := by rw [hH', if_pos rfl]
  have hL0 := hHs L (Nat.le_refl _)
  have ht0 := hHs t (by omega)
  refine ⟨H', L + 1, k + 1, 1, ?_, by omega⟩
  clear f39 f49 f53 f62 f66 f70 f' f39' f53' n39 n49 n62 n66 n70 n' Y e43 e49 e62 e66 e70 p53 q53 u53 pl
  have c53 : CO M53 O P V F ns H' s (L + 1) (fun i => pdg M r (k + 1) i ∨ i = L) := gC.add gs hHs gHs yO yP (fun i _ q => Or.inl q) (Or.inr (Or.inr (Or.inr (Or.inr (Or.inl ⟨rfl, by omega⟩))))) (fun _ => Or.inl (Or.inr rfl))
  have bsk : bs M' r k = bs M r k := (sums_cg (M := M) (M' := M') (r := r) (k := k) (fun j hj => by rw [x1, if_neg (by omega)]) (fun j hj => by rw [x4, if_neg (by omega)]) k (Nat.le_refl _)).1
  refine g.goes (o' := 42) (m' := orI (mI M (r + 4) k) v43) ⟨by rw [xr, if_pos rfl], by rw [xr, if_neg (by decide), if_neg (by decide), if_neg (by decide), g2]; omega, by rw [xr, if_neg (by decide), if_pos rfl], by rw [xr, if_neg (by decide), if_neg (by decide), if_pos rfl], by rw [xr, if_neg (by decide), if_neg (by decide), if_neg (by decide)]; exact gd⟩ x1 (fun j => by rw [x2]) (fun j hj => by rw [x3, if_neg (by omega)]) x4 (fun j => by rw [x5 5 (by omega) (by omega)]; exact gt j) (by rw [xp, if_pos rfl]; omega) (by omega) (fun j hj => by rw [xO, yO, if_neg (by omega)]) hHs (by rw [hHL, z5]; rfl) (by omega) ?_ (by omega) han ⟨rfl, rfl, by rw [ho]; rfl, by rw [ho]; rfl⟩ ?_
  · have ot : mI M53 O t = 33 := by rw [yO, if_neg (by omega)]; exact t4
    refine c53.put (t := t) (x := (L : Int) + 1) (by rw [ot]; exact Or.inr (Or.inr (Or.inl rfl))) xO xP (fun i hi it q => ?_) ⟨L + 1, by omega, by omega, Nat.le_refl _, fun _ => by omega, fun q => absurd ot q⟩
    rcases q with ⟨j, j1, j2, j3⟩ | q
    · have jk : j ≠ k := fun y => it (by rw [y, t1] at j2; omega)
      exact ⟨j, j1, by rw [x3, if_neg jk]; exact j2, by rw [x1, if_neg jk]; exact j3⟩
    · exact ⟨k, by omega, by rw [x3, if_pos rfl, q], by rw [x1, if_pos rfl]; exact Or.inr (Or.inr (Or.inr rfl))⟩
  · unfold enO
    rw [x1, if_pos rfl, x2, x3, if_pos rfl, x4, if_pos rfl, bsk]
    exact ⟨by unfold opn; omega, en2, mb, fun q => absurd q (by omega), fun _ => ⟨L, rfl, gs, by omega, by rw [xO, yO, if_pos rfl], by omega, fun q => absurd rfl q⟩, fun q => absurd (Or.inr (Or.inr (Or.inr rfl))) q, fun _ j hj => by rw [x1, if_neg (by omega)]; exact en7 (Or.inl ho) j hj⟩

end
