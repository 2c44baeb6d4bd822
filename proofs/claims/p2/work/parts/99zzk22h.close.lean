/-! The class's reader: what closes, exactly. -/
/-- the reader's state at word a, whatever is wanted -/
def RWx (u : Ru) (M : mM) (r p O P s a : Nat) : Prop := ∀ L' : Nat, mI M p 2 = L' → (mI M r 7 = 0 → RW0 u M r O P s 0 0 L' a) ∧ (mI M r 7 = 1 → RW1 u M r O P s L' a)
/-- a step: refused, or the next state -/
def clV (u : Ru) (r p O P s a : Nat) (x : Int) (M' : mM) : Prop := (x = 2 ∧ Rf (ruW u) (uS u) (uK u) a) ∨ (x = 0 ∧ RWx u M' r p O P s (a + 1))
/-- kept out of arithmetic -/
def Hid (p : Prop) : Prop := p
theorem ho_c {o : Int} (ho : o = 15 ∨ o = 16) : ¬ (19 ≤ o ∧ o ≤ 29) := by omega
theorem ho_k {o : Int} (ho : o = 15 ∨ o = 16) : ¬ (19 ≤ o ∧ o ≤ 31) := by omega
theorem ho_e {o : Int} (ho : o = 15 ∨ o = 16) : ¬ ((19 ≤ o ∧ o ≤ 29) ∨ o = 40 ∨ o = 41) := by omega
theorem ho_j {o : Int} (ho : o = 15 ∨ o = 16) : ¬ jm o := by unfold jm; omega
theorem ho_d {o : Int} (ho : o = 15 ∨ o = 16) : o = 15 ∨ o = 16 ∨ o = 33 ∨ o = 37 ∨ o = 40 ∨ o = 41 ∨ o = 42 := ho.elim (fun e => Or.inl e) (fun e => Or.inr (Or.inl e))
theorem dcan (a b : Nat) : ((a + b : Nat) : Int) = ((a + (b + 1) : Nat) : Int) - 1 := by omega
section RX5
variable {G : mG} {d z r w T A B D N C n p O P K k a s L V F d0 c : Nat} {M0 M M' M1 M2 M110 M126 M133 : mM} {H H' : Nat → Nat} {ns : Nat → Int} {wt : Int} {u : Ru} {c9 c8 L1 : Nat} {H1 : Nat → Nat}

theorem RW0.m33 (v : RW0 u M r O P s c9 c8 L a) (hw : ruW u a = 33) (hc : c9 ≤ 6) (hk : mI M r 12 = (k : Int) + 1) (ho : mI M (r + 1) k = 33) : mI M (r + 4) k = 0 ∨ mI M (r + 4) k = 1 := by
  obtain ⟨m, x, t, od, mq, kn, ft, e, q1, q2, q3⟩ := v.cases hk ho
  subst e
  obtain ⟨d9, od', k9, mq', last, kn', e1, e2, e3, hl, hdL, g⟩ := q2.colon hw hc
  subst e1 e2 e3
  obtain ⟨-, -, -, p4, -⟩ := q1.hd
  rw [p4]
  exact hl.2
theorem RW0.m15 {o : Int} (v : RW0 u M r O P s c9 c8 L a) (hc : c9 ≤ 6) (hk : mI M r 12 = (k : Int) + 1) (ho : mI M (r + 1) k = o) (ho2 : o = 15 ∨ o = 16) : mI M (r + 4) k = 0 ∨ mI M (r + 4) k = 2 ∨ mI M (r + 4) k = 3 := by
  obtain ⟨m, x, t, od, mq, kn, ft, e, q1, q2, q3⟩ := v.cases hk ho
  subst e
  obtain ⟨od', k9, mq', last, kn', e1, e2, e3, hl, g⟩ := q2.part ho2 hc
  subst e1 e2 e3
  obtain ⟨-, -, -, p4, -⟩ := q1.hd
  rw [p4]
  exact hl.2
theorem or_4 {m l v : Int} (hm : m = 0 ∨ m = 1) (hl : l = 0 ∨ l = 1) (hv : v = if l = 0 then 0 else 4) : orI m v = m + if l = 1 then 4 else 0 := by
  rcases hm with e | e <;> rcases hl with f | f <;> subst e <;> subst f <;> subst hv <;> decide
theorem or_3 {m l v : Int} (hm : m = 0 ∨ m = 2 ∨ m = 3) (hl : l = 0 ∨ l = 1) (hv : v = if l = 0 then 0 else 1) : orI m (orI 2 v) = (if m = 3 ∨ l = 1 then 3 else 2) ∧ (andI (orI m (orI 2 v)) 1 = 0 ↔ ¬ (m = 3 ∨ l = 1)) := by
  rcases hm with e | e | e <;> rcases hl with f | f <;> subst e <;> subst f <;> subst hv <;> decide
theorem x_ciOpen (h : RB M z r w T A B D N C n p O P K) (g : RG M r p O P n s V F ns d0 H L (k + 1) a 0) (han : a < n) (ho : mI M (r + 1) k = 37) (v : RW0 u M r O P s c9 c8 L a) (hw : ruW u a = 37) (hc9 : c9 ≤ 6) : h_RR_closeInner_165 G d r k 0 0 M (fun x M' => cliQ M z r w T A B D N C n p O P K s V F ns d0 L a x M' ∧ clV u r p O P s a x M') := by
  have rm := g.room
  have hwN := h.2.2.2.1.2.2.1
  have hN := h.2.2.2.1.1.2.2.2.2.2.2.1
  obtain ⟨oO, oP, op, e1, e2, e3⟩ := h.off
  obtain ⟨b1, b2, b3, b4⟩ := sum_top M r k
  have u0 : uw 0 = 1 := rfl
  have cd : cdp (mI M (r + 1) k) = 1 := by unfold cdp; rw [if_pos (by omega)]
  have ck : ckk (mI M (r + 1) k) = 0 := by unfold ckk; rw [if_neg (by omega)]
  have c0 : cm (mI M (r + 1) k) (mI M (r + 4) k) = 0 := by unfold cm; rw [if_neg (by omega), if_neg (by omega)]
  have nj : ¬ jm (mI M (r + 1) k) := by unfold jm; omega
  rw [cd] at b4
  rw [ck] at b2
  rw [c0] at b1
  obtain ⟨⟨g1, g2, g3, g4⟩, -, ⟨-, gs⟩, gc, ⟨gd, gd4⟩, -, -, ⟨gH, gHs⟩, gC, gL, gt⟩ := id g
  refine k_RR_closeInner_165 h.1 ⟨by omega, by omega⟩ (i32s (by omega) (by omega)) (i32s (by omega) (by omega)) ⟨fun _ => ⟨fun _ => ⟨fun _ => ?_, fun y => absurd rfl y⟩, fun y => absurd (Or.inl rfl) y⟩, fun y => absurd rfl y⟩
  refine s_ciPop (a := a) (k := k) (e := d0 + sdp M r k) h g1 (by omega) g2 (by omega) (by rw [gd, b4]; rfl) (by omega) (fun M' h' f' g' n' => ?_)
  have nt : ∀ i, 1 ≤ i → mI M' (r + i) = mI M (r + i) := fun i hi => n' (r + i) (by omega)
  have zO : mI M' O = mI M O := n' O (by first | exact oO | exact off0 oO | exact off9 oO (by decide) | exact off4 oO | exact e1 | exact e3 | omega)
  have zP : mI M' P = mI M P := n' P (by first | exact oP | exact off0 oP | exact off9 oP (by decide) | exact off4 oP | exact e2 | exact fun q => e3 q.symm | omega)
  have zp : mI M' p = mI M p := n' p (by first | exact op | exact off0 op | exact off9 op (by decide) | exact off4 op | exact fun q => e1 q.symm | exact fun q => e2 q.symm | omega)
  refine ⟨⟨h', f', fun i i2 i3 i4 i5 i7 i12 i14 => by rw [g', if_neg i2, if_neg i7, if_neg i5, if_neg i12], fun _ => by rw [g', if_neg (by decide), if_neg (by decide), if_neg (by decide), if_neg (by decide)], fun i i6 i9 => nt i (by omega), fun i _ => by rw [n' p (by first | exact op | exact off0 op | exact off9 op (by decide) | exact off4 op | exact fun q => e1 q.symm | exact fun q => e2 q.symm | omega)], fun i _ => by rw [n' O (by first | exact oO | exact off0 oO | exact off9 oO (by decide) | exact off4 oO | exact e1 | exact e3 | omega), n' P (by first | exact oP | exact off0 oP | exact off9 oP (by decide) | exact off4 oP | exact e2 | exact fun q => e3 q.symm | omega)]; exact ⟨rfl, rfl⟩, Or.inr ⟨rfl, H, L, k, 0, ?_, Nat.le_refl _⟩⟩, Or.inr ⟨rfl, fun L9 hL9 => ⟨fun _ => ?_, fun q => absurd q (by rw [g', if_neg (by decide), if_pos rfl]; decide)⟩⟩⟩
  rotate_left
  · have e9 : L9 = L := by rw [zp, g4] at hL9; exact (Int.ofNat_inj.mp hL9).symm
    rw [e9]
    exact v.par (k := k) hw hc9 (by rw [g2]; rfl) ho (by rw [g', if_neg (by decide), if_neg (by decide), if_neg (by decide), if_pos rfl]) (by rw [g', if_neg (by decide), if_neg (by decide), if_pos rfl, gd, b4]; exact dcan _ _) (by rw [g', if_neg (by decide), if_neg (by decide), if_neg (by decide), if_neg (by decide)]) (by rw [g', if_neg (by decide), if_neg (by decide), if_neg (by decide), if_neg (by decide)]) (by rw [g', if_neg (by decide), if_neg (by decide), if_neg (by decide), if_neg (by decide)]) (fun i i1 _ => nt i i1) (nt 5 (by decide)) zO zP
  refine g.popc ⟨by rw [g', if_pos rfl], by rw [g', if_neg (by decide), if_neg (by decide), if_neg (by decide), if_pos rfl], by rw [g', if_neg (by decide), if_pos rfl], by rw [g', if_neg (by decide), if_neg (by decide), if_neg (by decide), if_neg (by decide), gc, b2]; omega, by rw [g', if_neg (by decide), if_neg (by decide), if_pos rfl]⟩ (fun j _ => by rw [nt 1 (by omega)]) (fun j _ => by rw [nt 2 (by omega)]) (fun j _ => by rw [nt 3 (by omega)]) (fun j _ => by rw [nt 4 (by omega)]) (fun j => by rw [nt 5 (by omega)]; exact gt j) (by rw [n' p (by first | exact op | exact off0 op | exact off9 op (by decide) | exact off4 op | exact fun q => e1 q.symm | exact fun q => e2 q.symm | omega)]; exact g4) (Nat.le_refl _) (fun j _ => by rw [n' O (by first | exact oO | exact off0 oO | exact off9 oO (by decide) | exact off4 oO | exact e1 | exact e3 | omega)]) (fun _ _ => rfl) (by omega) gHs (fun pc p0 p1 => ?_) (by omega) han
  rw [n' O (by first | exact oO | exact off0 oO | exact off9 oO (by decide) | exact off4 oO | exact e1 | exact e3 | omega), n' P (by first | exact oP | exact off0 oP | exact off9 oP (by decide) | exact off4 oP | exact e2 | exact fun q => e3 q.symm | omega)]
  obtain ⟨a1, a2, a3⟩ := gC pc p0 p1
  refine ⟨a1, fun q => ?_, a3⟩
  rcases a2 q with ⟨j, j1, j2, j3⟩ | v
  · have jk : j ≠ k := fun y => nj (by rw [← y]; exact j3)
    exact Or.inl ⟨j, by omega, by rw [nt 3 (by omega)]; exact j2, by rw [nt 1 (by omega)]; exact j3⟩
  · exact Or.inr v

theorem x_ciElse (h : RB M z r w T A B D N C n p O P K) (g : RG M r p O P n s V F ns d0 H L (k + 1) a 0) (han : a < n) (ho : mI M (r + 1) k = 33) (v : RW0 u M r O P s c9 c8 L a) (hw : ruW u a = 33) (hc9 : c9 ≤ 6) : mK M (r + 4) = 30 ∧ ((0 : Int) ≤ (k : Int) ∧ (k : Int) < (mN M (r + 4) : Int)) ∧ Ci G y_RR_popKind d [vr r] M (fun x40 M39 => i32 x40 ∧ mOk M39 ∧ (∀ v43 : Int, v43 = (if (x40 = 0) then 0 else 4) → mK M39 (r + 4) = 30 ∧ ((0 : Int) ≤ (k : Int) ∧ (k : Int) < (mN M39 (r + 4) : Int)) ∧ ∀ M49, M49 = mUI M39 (r + 4) k (orI (mI M (r + 4) k) v43) → mK M49 r = 4 ∧ mK M49 (mR M49 r 1) = 6 ∧ Ci G y_Pr_add d [vr (mR M49 r 1), vi 42, vi 0] M49 (fun x54 M53 => i32 x54 ∧ mOk M53 ∧ (mK M53 r = 4 ∧ mK M53 (mR M53 r 1) = 6 ∧ mK M53 (mR M53 r 10) = 30 ∧ ((0 : Int) ≤ (k : Int) ∧ (k : Int) < (mN M53 (mR M53 r 10) : Int)) ∧ mK M53 (mR M53 (mR M53 r 1) 1) = 30 ∧ ((0 : Int) ≤ mI M53 (mR M53 r 10) k ∧ mI M53 (mR M53 r 10) k < (mN M53 (mR M53 (mR M53 r 1) 1) : Int)) ∧ ∀ M62, M62 = mUI M53 (mR M53 (mR M53 r 1) 1) (Int.toNat (mI M53 (mR M53 r 10) k)) (mI M53 (mR M53 r 1) 2) → mK M62 (mR M62 r 10) = 30 ∧ ((0 : Int) ≤ (k : Int) ∧ (k : Int) < (mN M62 (mR M62 r 10) : Int)) ∧ ∀ M66, M66 = mUI M62 (mR M62 r 10) k x54 → mK M66 (mR M66 r 8) = 30 ∧ ((0 : Int) ≤ (k : Int) ∧ (k : Int) < (mN M66 (mR M66 r 8) : Int)) ∧ ∀ M70, M70 = mUI M66 (mR M66 r 8) k 42 → h_RR_closeInner_165 G d r k 0 1 M70 (fun x M' => cliQ M z r w T A B D N C n p O P K s V F ns d0 L a x M' ∧ clV u r p O P s a x M'))))) := by
  have rm := g.room
  have hwN := h.2.2.2.1.2.2.1
  have hN := h.2.2.2.1.1.2.2.2.2.2.2.1
  have hK := h.2.2.2.2.2.2
  obtain ⟨oO, oP, op, e1, e2, e3⟩ := h.off
  obtain ⟨b1, b2, b3, b4⟩ := sum_top M r k
  have u0 : uw 0 = 1 := rfl
  have z1 : cdp 33 = 1 := rfl
  have z2 : ckk 33 = 0 := rfl
  have z3 : cee 33 = 0 := rfl
  have z4 : ∀ m, cm 33 m = 0 := fun m => by unfold cm; rw [if_neg (by omega), if_neg (by omega)]
  have z5 : ∀ m, cm 42 m = 0 := fun m => by unfold cm; rw [if_neg (by omega), if_neg (by omega)]
  rw [ho] at b1 b2 b3 b4
  rw [z4] at b1
  obtain ⟨⟨g1, g2, g3, g4⟩, -, ⟨-, gs⟩, gc, ⟨gd, gd4⟩, -, ge, ⟨gH, gHs⟩, gC, gL, gt⟩ := id g
  have kk14 : mI M r 14 = ((skk M r k : Nat) : Int) + 1 := by rw [gc, b2, z2, u0]; omega
  have m01 : Hid (mI M (r + 4) k = 0 ∨ mI M (r + 4) k = 1) := v.m33 (k := k) hw hc9 (by rw [g2]; rfl) ho
  obtain ⟨en1, en2, en3, en4, en5, -, en7⟩ := ge k (by omega)
  obtain ⟨t, t1, t2, t3, t4, t5, t6⟩ := en5 (by rw [ho]; exact Or.inr (Or.inr (Or.inl rfl)))
  rw [ho] at t4
  have pl : ∀ {Mx : mM}, RB Mx z r w T A B D N C n p O P K → (mR Mx r 8 = r + 1 ∧ mR Mx r 10 = r + 3) ∧ (mK Mx (r + 1) = 30 ∧ mK Mx (r + 3) = 30 ∧ mK Mx (r + 4) = 30) ∧ (mN Mx (r + 1) = 336 ∧ mN Mx (r + 3) = 336 ∧ mN Mx (r + 4) = 336) ∧ (mR Mx r 1 = p ∧ mR Mx p 1 = P ∧ mK Mx P = 30 ∧ mN Mx P = K) := fun hx => by
    obtain ⟨-, ⟨-, ⟨a1, a2, a3, a4, -⟩, ⟨b1, b2, b3, b4, -⟩, ⟨c1, c2, c3, c4, -⟩⟩, ⟨-, r1⟩, -, ⟨-, ⟨-, p1⟩, ⟨-, p2, -, p3⟩, -⟩, -⟩ := hx
    exact ⟨⟨a1, a3⟩, ⟨b1, b3, b4⟩, ⟨c1, c3, c4⟩, r1, p1, p2, p3⟩
  refine ⟨(pl h).2.1.2.2, by rw [(pl h).2.2.1.2.2]; omega, (x_RR_popKind (c := skk M r k) h (by rw [gc, b2, z2]; omega) (by omega)).mono (fun x40 M39 q => ?_)⟩
  obtain ⟨⟨hx, hx2⟩, h39, f39, r39⟩ := q
  have hx3 := hx2 (gt _)
  clear hx2
  have n39 : ∀ b, b ≠ r → mI M39 b = mI M b := fun b hb => f39.2.2.2.2.2.2 b hb
  have f39' : FI (rdS r p O P) M M39 := f39.mono (fun b q => Or.inl ⟨by omega, by omega⟩)
  refine ⟨i32s (by omega) (by omega), h39.1, fun v43 e43 => ⟨(pl h39).2.1.2.2, by rw [(pl h39).2.2.1.2.2]; omega, fun M49 e49 => ?_⟩⟩
  have b43 : v43 = 0 ∨ v43 = 4 := by rw [e43]; split <;> omega
  have mb := mk_or4 en3 b43
  have m4 : Hid (orI (mI M (r + 4) k) v43 = mI M (r + 4) k + if mI M (r + 5) (skk M r k) = 1 then 4 else 0) := or_4 (v := v43) m01 (gt (skk M r k)) (by rw [← hx3]; exact e43)
  obtain ⟨h49, f49, g49, n49⟩ := rb_tab h39 (i := 4) (by omega) (by omega) (i32s (by omega) (by omega)) e49
  have hPK := h49.2.2.2.2.1
  rw [(pl h49).2.2.2.1]
  refine ⟨h49.2.1.1, hPK.1, (s_Pr_add (n := L) (i32s (by omega) (by omega)) (i32s (by omega) (by omega)) h49.1 hPK (by rw [n49 p (by first | exact op | exact off0 op | exact off9 op (by decide) | exact off4 op | exact fun q => e1 q.symm | exact fun q => e2 q.symm | omega), n39 p (by first | exact op | exact off0 op | exact off9 op (by decide) | exact off4 op | exact fun q => e1 q.symm | exact fun q => e2 q.symm | omega)]; exact g4) (by omega)).mono (fun x54 M53 q => ?_)⟩
  obtain ⟨ex, o53, f53, p53, q53, u53⟩ := q
  have f53' : FI (rdS r p O P) M49 M53 := f53.mono (fun b q => Or.inr q)
  have h53 := h49.fi o53 f53'
  have Y : ∀ b, r ≤ b → b ≤ r + 9 → mI M53 b = mI M49 b := fun b y1 y2 => f53.2.2.2.2.2.2 b (fun q => by
    have q' : b = p ∨ b = O ∨ b = P := q
    first | exact off3 op oO oP (by assumption) (by assumption) q' | omega)
  have o3 : mI M53 (r + 3) k = t := by rw [Y (r + 3) (by omega) (by omega), n49 (r + 3) (by omega), n39 (r + 3) (by omega)]; exact t1
  have KK := hPK.2.2.2.2.2.1
  rw [(pl h53).2.2.2.1, (pl h53).1.2, (pl h53).2.2.2.2.1, (pl h53).2.2.2.2.2.2, (pl h53).2.2.1.2.1, o3, Int.toNat_natCast, p53, if_pos rfl]
  refine ⟨⟨by omega, by omega⟩, o53, h53.2.1.1, h53.2.2.2.2.1.1, (pl h53).2.1.2.1, by omega, (pl h53).2.2.2.2.2.1, by omega, fun M62 e62 => ?_⟩
  have f62 : FI (rdS r p O P) M53 M62 := by rw [e62]; exact FI.ui (Or.inr (Or.inr (Or.inr rfl)))
  have h62 := h53.fi (by rw [e62]; exact mOk_UI o53 ⟨by omega, by omega⟩) f62
  have n62 : ∀ b, b ≠ P → mI M62 b = mI M53 b := fun b hb => by rw [e62]; funext i; rw [mI_UI, if_neg (fun q => hb q.1)]
  rw [(pl h62).1.2, (pl h62).2.2.1.2.1]
  refine ⟨(pl h62).2.1.2.1, by omega, fun M66 e66 => ?_⟩
  obtain ⟨h66, f66, g66, n66⟩ := rb_tab h62 (i := 3) (by omega) (by omega) (by rw [ex]; exact ⟨by omega, by omega⟩) e66
  rw [(pl h66).1.1, (pl h66).2.2.1.1]
  refine ⟨(pl h66).2.1.1, by omega, fun M70 e70 => ?_⟩
  obtain ⟨h70, f70, g70, n70⟩ := rb_tab h66 (i := 1) (by omega) (by omega) (i32s (by omega) (by omega)) e70
  have r70 : mI M70 r = mI M39 r := by rw [n70 r (by omega), n66 r (by omega), n62 r (by first | exact fof0 oP | omega), Y r (by omega) (by omega), n49 r (by omega)]
  refine k_RR_closeInner_165 h70.1 ⟨by omega, by omega⟩ (i32s (by omega) (by omega)) (i32s (by omega) (by omega)) ⟨fun _ => ⟨fun _ => ⟨fun y => absurd y (by omega), fun _ => ?_⟩, fun y => absurd (Or.inl rfl) y⟩, fun y => absurd rfl y⟩
  refine s_ci286 (a := a) (Or.inr rfl) h70 (by rw [r70, r39, if_neg (by decide)]; exact g1) (by omega) (fun M' h' f' g' n' => ?_)
  have x1 : ∀ j, mI M' (r + 1) j = if j = k then 42 else mI M (r + 1) j := fun j => by
    rw [n' (r + 1) (by omega), g70, n66 (r + 1) (by omega), n62 (r + 1) (by first | exact fof9 oP (by decide) | omega), Y (r + 1) (by omega) (by omega), n49 (r + 1) (by omega), n39 (r + 1) (by omega)]
  have x2 : mI M' (r + 2) = mI M (r + 2) := by
    rw [n' (r + 2) (by omega), n70 (r + 2) (by omega), n66 (r + 2) (by omega), n62 (r + 2) (by first | exact fof9 oP (by decide) | omega), Y (r + 2) (by omega) (by omega), n49 (r + 2) (by omega), n39 (r + 2) (by omega)]
  have x3 : ∀ j, mI M' (r + 3) j = if j = k then (L : Int) else mI M (r + 3) j := fun j => by
    rw [n' (r + 3) (by omega), n70 (r + 3) (by omega), g66, n62 (r + 3) (by first | exact fof9 oP (by decide) | omega), Y (r + 3) (by omega) (by omega), n49 (r + 3) (by omega), n39 (r + 3) (by omega), ex]
  have x4 : ∀ j, mI M' (r + 4) j = if j = k then orI (mI M (r + 4) k) v43 else mI M (r + 4) j := fun j => by
    rw [n' (r + 4) (by omega), n70 (r + 4) (by omega), n66 (r + 4) (by omega), n62 (r + 4) (by first | exact fof9 oP (by decide) | omega), Y (r + 4) (by omega) (by omega), g49, n39 (r + 4) (by omega)]
  have x5 : ∀ i, 5 ≤ i → i ≤ 9 → mI M' (r + i) = mI M (r + i) := fun i i5 i9 => by
    rw [n' (r + i) (by omega), n70 (r + i) (by omega), n66 (r + i) (by omega), n62 (r + i) (by first | exact fof9 oP (by assumption) | omega), Y (r + i) (by omega) (by omega), n49 (r + i) (by omega), n39 (r + i) (by omega)]
  have xp : ∀ i, mI M' p i = if i = 2 then (L : Int) + 1 else mI M p i := fun i => by
    rw [n' p (by first | exact op | exact off0 op | exact off9 op (by decide) | exact off4 op | exact fun q => e1 q.symm | exact fun q => e2 q.symm | omega), n70 p (by first | exact op | exact off0 op | exact off9 op (by decide) | exact off4 op | exact fun q => e1 q.symm | exact fun q => e2 q.symm | omega), n66 p (by first | exact op | exact off0 op | exact off9 op (by decide) | exact off4 op | exact fun q => e1 q.symm | exact fun q => e2 q.symm | omega), n62 p (by first | exact op | exact off0 op | exact off9 op (by decide) | exact off4 op | exact fun q => e1 q.symm | exact fun q => e2 q.symm | omega), p53, n49 p (by first | exact op | exact off0 op | exact off9 op (by decide) | exact off4 op | exact fun q => e1 q.symm | exact fun q => e2 q.symm | omega), n39 p (by first | exact op | exact off0 op | exact off9 op (by decide) | exact off4 op | exact fun q => e1 q.symm | exact fun q => e2 q.symm | omega)]
  have xO : ∀ i, mI M' O i = mI M53 O i := fun i => by
    rw [n' O (by first | exact oO | exact off0 oO | exact off9 oO (by decide) | exact off4 oO | exact e1 | exact e3 | omega), n70 O (by first | exact oO | exact off0 oO | exact off9 oO (by decide) | exact off4 oO | exact e1 | exact e3 | omega), n66 O (by first | exact oO | exact off0 oO | exact off9 oO (by decide) | exact off4 oO | exact e1 | exact e3 | omega), n62 O (by first | exact oO | exact off0 oO | exact off9 oO (by decide) | exact off4 oO | exact e1 | exact e3 | omega)]
  have yO : ∀ i, mI M53 O i = if i = L then 42 else mI M O i := fun i => by rw [q53, n49 O (by first | exact oO | exact off0 oO | exact off9 oO (by decide) | exact off4 oO | exact e1 | exact e3 | omega), n39 O (by first | exact oO | exact off0 oO | exact off9 oO (by decide) | exact off4 oO | exact e1 | exact e3 | omega)]
  have yP : ∀ i, mI M53 P i = if i = L then 0 else mI M P i := fun i => by rw [u53, n49 P (by first | exact oP | exact off0 oP | exact off9 oP (by decide) | exact off4 oP | exact e2 | exact fun q => e3 q.symm | omega), n39 P (by first | exact oP | exact off0 oP | exact off9 oP (by decide) | exact off4 oP | exact e2 | exact fun q => e3 q.symm | omega)]
  have xP : ∀ i, mI M' P i = if i = t then (L : Int) + 1 else mI M53 P i := fun i => by
    rw [n' P (by first | exact oP | exact off0 oP | exact off9 oP (by decide) | exact off4 oP | exact e2 | exact fun q => e3 q.symm | omega), n70 P (by first | exact oP | exact off0 oP | exact off9 oP (by decide) | exact off4 oP | exact e2 | exact fun q => e3 q.symm | omega), n66 P (by first | exact oP | exact off0 oP | exact off9 oP (by decide) | exact off4 oP | exact e2 | exact fun q => e3 q.symm | omega), e62, mI_UI]
    by_cases y : i = t
    · rw [if_pos ⟨rfl, y⟩, if_pos y]
    · rw [if_neg (fun q => y q.2), if_neg y]
  have xr : ∀ i, mI M' r i = if i = 2 then (a : Int) + 1 else if i = 7 then 1 else if i = 14 then ((skk M r k : Nat) : Int) else mI M r i := fun i => by rw [g', r70, r39]
  refine ⟨⟨h', (((((f39'.trans f49).trans f53').trans f62).trans f66).trans f70).trans f', fun i i2 i3 i4 i5 i7 i12 i14 => by rw [xr, if_neg i2, if_neg i7, if_neg i14], fun _ => by rw [xr, if_neg (by decide), if_neg (by decide), if_neg (by decide)], fun i i6 i9 => x5 i (by omega) i9, fun i i2 => by rw [xp, if_neg i2], fun i hi => ⟨by rw [xO, yO, if_neg (by omega)], by rw [xP, if_neg (by omega), yP, if_neg (by omega)]⟩, Or.inr ⟨rfl, ?_⟩⟩, Or.inr ⟨rfl, fun L9 hL9 => ⟨fun q => absurd q (by rw [xr, if_neg (by decide), if_pos rfl]; decide), fun _ => ?_⟩⟩⟩
  rotate_left
  · have e9 : L9 = L + 1 := by rw [xp, if_pos rfl] at hL9; exact (Int.ofNat_inj.mp hL9).symm
    rw [e9]
    exact v.colon (k := k) (kk := skk M r k) (dd := t) hw hc9 (by rw [g2]; rfl) ho kk14 t1 (by rw [xr, if_neg (by decide), if_neg (by decide), if_neg (by decide), g2]; rfl) (by rw [xr, if_neg (by decide), if_neg (by decide), if_neg (by decide)]) (by rw [xr, if_neg (by decide), if_neg (by decide), if_neg (by decide)]) (by rw [xr, if_neg (by decide), if_neg (by decide), if_neg (by decide)]) (by rw [xr, if_neg (by decide), if_neg (by decide), if_pos rfl]) x1 x2 x3 (fun i => by rw [x4, show orI (mI M (r + 4) k) v43 = _ from m4]) (fun i _ => by rw [x5 5 (by decide) (by decide)]) (fun i => by rw [xO, yO]) (fun i hi => by rw [xP, yP, if_neg (Nat.ne_of_lt hi)])
  obtain ⟨H', hH'⟩ : ∃ H' : Nat → Nat, ∀ i, H' i = if i = L + 1 then bs M r k else H i := ⟨fun i => if i = L + 1 then bs M r k else H i, fun _ => rfl⟩
  have hHs : ∀ i, i ≤ L → H' i = H i := fun i hi => by rw [hH', if_neg (by omega)]
  have hHL : H' (L + 1) = bs M r k := by rw [hH', if_pos rfl]
  have hL0 := hHs L (Nat.le_refl _)
  have ht0 := hHs t (by omega)
  refine ⟨H', L + 1, k + 1, 1, ?_, by omega⟩
  clear f39 f49 f53 f62 f66 f70 f' f39' f53' n39 n49 n62 n66 n70 n' Y e43 e49 e62 e66 e70 p53 q53 u53 pl
  have c53 : CO M53 O P V F ns H' s (L + 1) (fun i => pdg M r (k + 1) i ∨ i = L) := gC.add gs hHs gHs yO yP (fun i _ q => Or.inl q) (Or.inr (Or.inr (Or.inr (Or.inr (Or.inl ⟨rfl, by omega⟩))))) (fun _ => Or.inl (Or.inr rfl))
  have bsk : bs M' r k = bs M r k := (sums_cg (M := M) (M' := M') (r := r) (k := k) (fun j hj => by rw [x1, if_neg (by omega)]) (fun j hj => by rw [x4, if_neg (by omega)]) k (Nat.le_refl _)).1
  refine g.goes (o' := 42) (m' := orI (mI M (r + 4) k) v43) ⟨by rw [xr, if_pos rfl], by rw [xr, if_neg (by decide), if_neg (by decide), if_neg (by decide), g2]; omega, by rw [xr, if_neg (by decide), if_pos rfl], by rw [xr, if_neg (by decide), if_neg (by decide), if_pos rfl], by rw [xr, if_neg (by decide), if_neg (by decide), if_neg (by decide)]; exact gd⟩ x1 (fun j => by rw [x2]) (fun j hj => by rw [x3, if_neg (by omega)]) x4 (fun j => by rw [x5 5 (by omega) (by omega)]; exact gt j) (by rw [xp, if_pos rfl]; omega) (by omega) (fun j hj => by rw [xO, yO, if_neg (by omega)]) hHs (by rw [hHL, z5]; rfl) (by omega) ?_ (by omega) han ⟨rfl, rfl, by rw [ho]; rfl, by rw [ho]; rfl⟩ ?_
  · have ot : mI M53 O t = 33 := by rw [yO, if_neg (by omega)]; exact t4
    refine c53.put (t := t) (x := (L : Int) + 1) (by rw [ot]; exact Or.inr (Or.inr (Or.inl rfl))) xO xP (fun i hi it q => ?_) ⟨L + 1, by omega, by omega, Nat.le_refl _, fun _ => by omega, fun q => absurd ot q⟩
    rcases q with ⟨j, j1, j2, j3⟩ | q
    · have jk : j ≠ k := fun y => it (by rw [y, t1] at j2; omega)
      exact ⟨j, j1, by rw [x3, if_neg jk]; exact j2, by rw [x1, if_neg jk]; exact j3⟩
    · exact ⟨k, by omega, by rw [x3, if_pos rfl, q], by rw [x1, if_pos rfl]; exact Or.inr (Or.inr (Or.inr rfl))⟩
  · unfold enO
    rw [x1, if_pos rfl, x2, x3, if_pos rfl, x4, if_pos rfl, bsk]
    exact ⟨by unfold opn; omega, en2, mb, fun q => absurd q (by omega), fun _ => ⟨L, rfl, gs, by omega, by rw [xO, yO, if_pos rfl], by omega, fun q => absurd rfl q⟩, fun q => absurd (Or.inr (Or.inr (Or.inr rfl))) q, fun _ j hj => by rw [x1, if_neg (by omega)]; exact en7 (Or.inl ho) j hj⟩

theorem x_ci201 {l5 : Int} (g : RG M r p O P n s V F ns d0 H L (k + 1) a 0) (h0 : RB M z r w T A B D N C n p O P K) (han : a < n) (ho : mI M (r + 1) k = 15 ∨ mI M (r + 1) k = 16) (hl : liA M z r w T A B D N C n p O P K s V F ns H L k a H1 L1 M1) (h5 : l5 = 0 ∨ l5 = 1) (v : RW0 u M r O P s c9 c8 L a) (hw0 : Hid (l5 = 0 → ruW u a = 37)) (hw1 : Hid (l5 = 1 → ruW u a = 35)) (hc9 : c9 ≤ 6) (hA0 : Hid (mI M (r + 4) k = 0 → L1 = L ∧ mI M1 O = mI M O ∧ mI M1 P = mI M P)) (hA1 : Hid (mI M (r + 4) k ≠ 0 → L1 = L + 1 ∧ (∀ i, mI M1 O i = if i = L then mI M (r + 1) k else mI M O i) ∧ (∀ i, mI M1 P i = if i = L then mI M (r + 2) k else mI M P i))) : h_RR_closeInner_201 G d r k 1 l5 M1 (fun x M' => cliQ M z r w T A B D N C n p O P K s V F ns d0 L a x M' ∧ clV u r p O P s a x M') := by
  have rm := g.room
  have hwN := h0.2.2.2.1.2.2.1
  have hN := h0.2.2.2.1.1.2.2.2.2.2.2.1
  obtain ⟨oO, oP, op, e1, e2, e3⟩ := h0.off
  obtain ⟨b1, b2, b3, b4⟩ := sum_top M r k
  have cd : cdp (mI M (r + 1) k) = 1 := by unfold cdp; rw [if_pos (ho_d ho)]
  have ck : ckk (mI M (r + 1) k) = 0 := by unfold ckk; rw [if_neg (ho_k ho)]
  have ce : cee (mI M (r + 1) k) = 0 := by unfold cee; rw [if_neg (ho_e ho)]
  have nj : ¬ jm (mI M (r + 1) k) := ho_j ho
  rw [cd] at b4
  rw [ck] at b2
  have u0 : uw 0 = 1 := rfl
  obtain ⟨⟨g1, g2, g3, g4⟩, -, ⟨-, gs⟩, gc, ⟨gd, gd4⟩, -, ge, -, -, -, gt⟩ := id g
  have kk14 : mI M r 14 = ((skk M r k : Nat) : Int) + 1 := by rw [gc, b2, u0]; omega
  have m023 : Hid (mI M (r + 4) k = 0 ∨ mI M (r + 4) k = 2 ∨ mI M (r + 4) k = 3) := v.m15 (k := k) hc9 (by rw [g2]; rfl) rfl ho
  obtain ⟨en1, en2, en3, en4, -, en6, -⟩ := ge k (by omega)
  obtain ⟨h1, f1, t1, p1, q1, L01, H01, HL1, Hs1, C1, se1⟩ := hl
  have m3 := en4 ho
  have pdk : ∀ {Mx : mM} {kk i : Nat}, (∀ j, j < k → mI Mx (r + 1) j = mI M (r + 1) j ∧ mI Mx (r + 3) j = mI M (r + 3) j) → k ≤ kk → pdg M r (k + 1) i → pdg Mx r kk i := fun {Mx kk i} hx hk q => by
    obtain ⟨j, j1, j2, j3⟩ := q
    have jk : j ≠ k := fun y => nj (by rw [← y]; exact j3)
    exact ⟨j, by omega, by rw [(hx j (by omega)).2]; exact j2, by rw [(hx j (by omega)).1]; exact j3⟩
  have pl : ∀ {Mx : mM}, RB Mx z r w T A B D N C n p O P K → (mR Mx r 9 = r + 2 ∧ mR Mx r 11 = r + 4) ∧ (mK Mx (r + 2) = 30 ∧ mK Mx (r + 4) = 30) ∧ (mN Mx (r + 2) = 336 ∧ mN Mx (r + 4) = 336) := fun hx => by
    obtain ⟨-, ⟨-, ⟨a1, a2, a3, a4, -⟩, ⟨b1, b2, b3, b4, -⟩, ⟨c1, c2, c3, c4, -⟩⟩, -⟩ := hx
    exact ⟨⟨a2, a4⟩, ⟨b2, b4⟩, c2, c4⟩
  refine k_RR_closeInner_201 h1.1 ⟨by omega, by omega⟩ (i32s (by omega) (by omega)) (i32s (by omega) (by omega)) ?_
  rw [(pl h1).1.2, (pl h1).2.2.2, Int.toNat_natCast, t1 (r + 4) (by omega) (by omega)]
  refine ⟨h1.2.1.1, (pl h1).2.1.2, by omega, (x_RR_popKind (c := skk M r k) h1 (by rw [t1 r (by omega) (by omega), gc, b2]; omega) (by omega)).mono (fun x145 M144 q => ?_)⟩
  obtain ⟨⟨hx, hx2⟩, h144, f144, r144⟩ := q
  rw [t1 (r + 5) (by omega) (by omega)] at hx2
  have hx3 := hx2 (gt _)
  clear hx2
  have n144 : ∀ b, b ≠ r → mI M144 b = mI M1 b := fun b hb => f144.2.2.2.2.2.2 b hb
  have f144' : FI (rdS r p O P) M1 M144 := f144.mono (fun b q => Or.inl ⟨by omega, by omega⟩)
  refine ⟨i32s (by omega) (by omega), h144.1, fun v148 e148 => ⟨(pl h144).2.1.2, by rw [(pl h144).2.2.2]; omega, fun M155 e155 => ?_⟩⟩
  have b148 : v148 = 0 ∨ v148 = 1 := by rw [e148]; split <;> omega
  have mo := mk_or (m := mI M (r + 4) k) ⟨en3.1, m3⟩ b148
  have m3x : Hid (orI (mI M (r + 4) k) (orI 2 v148) = (if mI M (r + 4) k = 3 ∨ mI M (r + 5) (skk M r k) = 1 then 3 else 2) ∧ (andI (orI (mI M (r + 4) k) (orI 2 v148)) 1 = 0 ↔ ¬ (mI M (r + 4) k = 3 ∨ mI M (r + 5) (skk M r k) = 1))) := or_3 (v := v148) m023 (gt (skk M r k)) (by rw [← hx3]; exact e148)
  generalize hmm : orI (mI M (r + 4) k) (orI 2 v148) = mm at *
  obtain ⟨h155, f155, g155, n155⟩ := rb_tab h144 (i := 4) (by omega) (by omega) (i32s (by omega) (by omega)) e155
  have F155 : FI (rdS r p O P) M M155 := (f1.trans f144').trans f155
  have r155 : ∀ i, mI M155 r i = if i = 14 then ((skk M r k : Nat) : Int) else mI M r i := fun i => by rw [n155 r (by omega), r144, t1 r (by omega) (by omega)]
  have t155 : ∀ i, 1 ≤ i → i ≤ 9 → i ≠ 4 → mI M155 (r + i) = mI M (r + i) := fun i i1 i9 i4 => by rw [n155 (r + i) (by omega), n144 (r + i) (by omega), t1 (r + i) (by omega) (by omega)]
  have x4 : ∀ j, mI M155 (r + 4) j = if j = k then mm else mI M (r + 4) j := fun j => by rw [g155, n144 (r + 4) (by omega), t1 (r + 4) (by omega) (by omega)]
  have o155 : ∀ b, (b < r ∨ r + 9 < b) → mI M155 b = mI M1 b := fun b hb => by rw [n155 b (by omega), n144 b (by omega)]
  rcases h5 with y5 | y5
  · -- ')'
    subst y5
    have fin : ∀ {My : mM}, gI M155 z r w T A B D N C n p O P K (k + 1) (skk M r k) My → mI My (r + 5) = mI M (r + 5) → Fqq M r (kft (¬ (mI M (r + 4) k = 3 ∨ mI M (r + 5) (skk M r k) = 1)) (mI M (r + 2) k)) My → h_RR_closeInner_256 G d r 0 My (fun x M' => cliQ M z r w T A B D N C n p O P K s V F ns d0 L a x M' ∧ clV u r p O P s a x M') := fun {My} hy hy5 hyF => by
      obtain ⟨hb, fb, rb, ⟨rb12, rb14⟩, rb3, nb, tb⟩ := hy
      refine k_RR_closeInner_256 hb.1 (i32s (by omega) (by omega)) ⟨hb.2.1.1, (s_RR_pushKind (Or.inl rfl) hb rb14 (by omega)).mono (fun M189 q => ?_)⟩
      obtain ⟨h189, f189, r189, t189⟩ := q
      have n189 : ∀ b, b ≠ r → b ≠ r + 5 → mI M189 b = mI My b := fun b y1 y2 => f189.2.2.2.2.2.2 b (fun q => by have q' : b = r ∨ b = r + 5 := q; first | exact rin5 q' | exact nin5 (by assumption) (by assumption) q' | omega)
      refine ⟨h189.1, fun _ => ?_, fun y => absurd rfl y⟩
      refine s_ciPop (a := a) (k := k) (e := d0 + sdp M r k) h189 (by rw [r189, if_neg (by decide), rb 2 (by decide) (by decide) (by decide) (by decide), r155, if_neg (by decide)]; exact g1) (by omega) (by rw [r189, if_neg (by decide)]; exact rb12) (by omega) (by rw [r189, if_neg (by decide), rb 5 (by decide) (by decide) (by decide) (by decide), r155, if_neg (by decide), gd, b4]; rfl) (by omega) (fun M' h' f' g' n' => ?_)
      have X : ∀ b, b ≠ r → b ≠ r + 5 → mI M' b = mI M155 b := fun b y1 y2 => by rw [n' b y1, n189 b y1 y2, nb b y1 y2]
      have TT : ∀ i, 1 ≤ i → i ≤ 9 → i ≠ 4 → i ≠ 5 → mI M' (r + i) = mI M (r + i) := fun i i1 i9 i4 i5 => by rw [X (r + i) (by omega) (by omega), t155 i i1 i9 i4]
      have xO : mI M' O = mI M1 O := by rw [X O (by first | exact oO | exact off0 oO | exact off9 oO (by decide) | exact off4 oO | exact e1 | exact e3 | omega) (by first | exact oO | exact off0 oO | exact off9 oO (by decide) | exact off4 oO | exact e1 | exact e3 | omega), o155 O (by first | exact oO | exact off0 oO | exact off9 oO (by decide) | exact off4 oO | exact e1 | exact e3 | omega)]
      have xP : mI M' P = mI M1 P := by rw [X P (by first | exact oP | exact off0 oP | exact off9 oP (by decide) | exact off4 oP | exact e2 | exact fun q => e3 q.symm | omega) (by first | exact oP | exact off0 oP | exact off9 oP (by decide) | exact off4 oP | exact e2 | exact fun q => e3 q.symm | omega), o155 P (by first | exact oP | exact off0 oP | exact off9 oP (by decide) | exact off4 oP | exact e2 | exact fun q => e3 q.symm | omega)]
      have xp : mI M' p = mI M1 p := by rw [X p (by first | exact op | exact off0 op | exact off9 op (by decide) | exact off4 op | exact fun q => e1 q.symm | exact fun q => e2 q.symm | omega) (by first | exact op | exact off0 op | exact off9 op (by decide) | exact off4 op | exact fun q => e1 q.symm | exact fun q => e2 q.symm | omega), o155 p (by first | exact op | exact off0 op | exact off9 op (by decide) | exact off4 op | exact fun q => e1 q.symm | exact fun q => e2 q.symm | omega)]
      have RR : ∀ i, i ≠ 2 → i ≠ 7 → i ≠ 5 → i ≠ 12 → i ≠ 14 → mI M' r i = mI My r i := fun i i2 i7 i5 i12 i14 => by rw [g', if_neg i2, if_neg i7, if_neg i5, if_neg i12, r189, if_neg i14]
      refine ⟨⟨h', ((F155.trans fb).trans (f189.mono (fun b q => Or.inl (by have q' : b = r ∨ b = r + 5 := q; first | exact rin5 q' | exact nin5 (by assumption) (by assumption) q' | omega)))).trans f', fun i i2 i3 i4 i5 i7 i12 i14 => by rw [RR i i2 i7 i5 i12 i14, rb i i3 i4 i12 i14, r155, if_neg i14], fun q => ?_, fun i i6 i9 => TT i (by omega) i9 (by omega) (by omega), fun i i2 => by rw [xp, p1, if_neg i2], fun i hi => ⟨by rw [xO]; exact (q1 i (by omega)).1, by rw [xP]; exact (q1 i (by omega)).2⟩, Or.inr ⟨rfl, H1, L1, k, 0, ?_, L01⟩⟩, Or.inr ⟨rfl, fun L9 hL9 => ⟨fun _ => ?_, fun q => absurd q (by rw [g', if_neg (by decide), if_pos rfl]; decide)⟩⟩⟩
      · have e3' : mI M155 r 3 = mI M r 3 := by rw [r155, if_neg (by decide)]
        rw [RR 3 (by decide) (by decide) (by decide) (by decide) (by decide), rb3 (by rw [e3']; exact q), e3']
      · refine g.popc ⟨by rw [g', if_pos rfl], by rw [g', if_neg (by decide), if_neg (by decide), if_neg (by decide), if_pos rfl], by rw [g', if_neg (by decide), if_pos rfl], by rw [g', if_neg (by decide), if_neg (by decide), if_neg (by decide), if_neg (by decide), r189, if_pos rfl]; omega, by rw [g', if_neg (by decide), if_neg (by decide), if_pos rfl]⟩ (fun j _ => by rw [TT 1 (by omega) (by omega) (by omega) (by omega)]) (fun j _ => by rw [TT 2 (by omega) (by omega) (by omega) (by omega)]) (fun j _ => by rw [TT 3 (by omega) (by omega) (by omega) (by omega)]) (fun j hj => by rw [X (r + 4) (by omega) (by omega), x4, if_neg (by omega)]) (fun j => ?_) (by rw [xp, p1, if_pos rfl]) L01 (fun j hj => by rw [xO]; exact (q1 j hj).1) H01 HL1 Hs1 (fun pc p0 pL => ?_) se1 han
        · rw [n' (r + 5) (by omega), t189]
          split
          · exact Or.inl rfl
          · exact tb j
        · rw [xO, xP]
          obtain ⟨c1, c2, c3⟩ := C1 pc p0 pL
          exact ⟨c1, fun q => (c2 q).imp (fun u => pdk (fun j _ => ⟨by rw [TT 1 (by omega) (by omega) (by omega) (by omega)], by rw [TT 3 (by omega) (by omega) (by omega) (by omega)]⟩) (Nat.le_refl _) u) (fun u => u), c3⟩
      · have e9 : L9 = L1 := by rw [xp, p1, if_pos rfl] at hL9; exact (Int.ofNat_inj.mp hL9).symm
        rw [e9]
        exact v.clos (k := k) (kk := skk M r k) (L' := L1) (hw0 rfl) hc9 (by rw [g2]; rfl) rfl ho kk14 (by rw [g', if_neg (by decide), if_neg (by decide), if_neg (by decide), if_pos rfl]) (by rw [g', if_neg (by decide), if_neg (by decide), if_pos rfl, gd, b4]; exact dcan _ _) (by rw [g', if_neg (by decide), if_neg (by decide), if_neg (by decide), if_neg (by decide), r189, if_pos rfl]) (fun i i1 i4 j hj => by
          by_cases y4 : i = 4
          · subst y4
            rw [X (r + 4) (by omega) (by omega), x4, if_neg (Nat.ne_of_lt hj)]
          · rw [TT i i1 (by omega) y4 (by omega)]) (fun i => by rw [n' (r + 5) (by omega), t189, hy5]) (hyF.later (RR 3 (by decide) (by decide) (by decide) (by decide) (by decide)) (RR 4 (by decide) (by decide) (by decide) (by decide) (by decide))) (fun q => ⟨(hA0 q).1, by rw [xO]; exact (hA0 q).2.1, by rw [xP]; exact (hA0 q).2.2⟩) (fun q => ⟨(hA1 q).1, fun i => by rw [xO]; exact (hA1 q).2.1 i, fun i => by rw [xP]; exact (hA1 q).2.2 i⟩)
    have gi : gI M155 z r w T A B D N C n p O P K (k + 1) (skk M r k) M155 := ⟨h155, FI.refl, fun _ _ _ _ _ => rfl, ⟨by rw [r155, if_neg (by decide)]; exact g2, by rw [r155, if_pos rfl]⟩, fun _ => rfl, fun _ _ _ => rfl, fun j => by rw [t155 5 (by omega) (by omega) (by omega)]; exact gt j⟩
    refine ⟨fun y => absurd y (by omega), fun _ => ?_⟩
    rw [(pl h155).1.2, (pl h155).1.1, (pl h155).2.2.2, (pl h155).2.2.1]
    have r3 : mI M155 r 3 = mI M r 3 ∧ mI M155 r 4 = mI M r 4 := ⟨by rw [r155, if_neg (by decide)], by rw [r155, if_neg (by decide)]⟩
    have z5 : mI M155 (r + 5) = mI M (r + 5) := t155 5 (by omega) (by omega) (by omega)
    have z2 : mI M155 (r + 2) = mI M (r + 2) := t155 2 (by omega) (by omega) (by omega)
    have z4 : mI M155 (r + 4) k = mm := by rw [x4, if_pos rfl]
    rw [z4, z2]
    refine ⟨h155.2.1.1, (pl h155).2.1.2, by omega, fun y => fin gi z5 ?_, fun y => ⟨(pl h155).2.1.1, by omega, ?_⟩⟩
    · have : kft (¬ (mI M (r + 4) k = 3 ∨ mI M (r + 5) (skk M r k) = 1)) (mI M (r + 2) k) = (0, 0) := if_pos ((show _ ∧ _ from m3x).2.mp y)
      rw [this]
      exact Fq_none r3.1 r3.2
    · refine (x_RR_note (i32s (by omega) (by omega)) (h0.1 _ _).1 h155).mono (fun M182 q => ?_)
      obtain ⟨b1', f1', g1', -, g3', g4'⟩ := q
      have o1 : ∀ b, b ≠ r → mI M182 b = mI M155 b := fun b hb => f1'.2.2.2.2.2.2 b hb
      obtain ⟨a1, a2, a3, ⟨a4, a5⟩, a6, a7, a8⟩ := gi
      have hI : gI M155 z r w T A B D N C n p O P K (k + 1) (skk M r k) M182 := ⟨b1', f1'.mono (fun b q => Or.inl ⟨by omega, by omega⟩), fun i i3 i4 _ _ => g1' i i3 i4, ⟨by rw [g1' 12 (by decide) (by decide)]; exact a4, by rw [g1' 14 (by decide) (by decide)]; exact a5⟩, fun q => g3' q, fun b b1 _ => o1 b b1, fun j => by rw [o1 (r + 5) (by omega)]; exact a8 j⟩
      refine ⟨b1'.1, fin hI (by rw [o1 (r + 5) (by omega)]; exact z5) ?_⟩
      have : kft (¬ (mI M (r + 4) k = 3 ∨ mI M (r + 5) (skk M r k) = 1)) (mI M (r + 2) k) = (3, mI M (r + 2) k) := if_neg (fun q => y ((show _ ∧ _ from m3x).2.mpr q))
      rw [this]
      exact (g4' (by decide)).first r3.1 r3.2
  · -- ','
    subst y5
    refine ⟨fun _ => ⟨fun y => absurd y (by omega), fun _ => ?_⟩, fun y => absurd (Or.inr (by omega)) y⟩
    refine s_ci286 (a := a) (Or.inr rfl) h155 (by rw [r155, if_neg (by decide)]; exact g1) (by omega) (fun M' h' f' g' n' => ?_)
    have TT : ∀ i, 1 ≤ i → i ≤ 9 → i ≠ 4 → mI M' (r + i) = mI M (r + i) := fun i i1 i9 i4 => by rw [n' (r + i) (by omega), t155 i i1 i9 i4]
    have xO : mI M' O = mI M1 O := by rw [n' O (by first | exact oO | exact off0 oO | exact off9 oO (by decide) | exact off4 oO | exact e1 | exact e3 | omega), o155 O (by first | exact oO | exact off0 oO | exact off9 oO (by decide) | exact off4 oO | exact e1 | exact e3 | omega)]
    have xP : mI M' P = mI M1 P := by rw [n' P (by first | exact oP | exact off0 oP | exact off9 oP (by decide) | exact off4 oP | exact e2 | exact fun q => e3 q.symm | omega), o155 P (by first | exact oP | exact off0 oP | exact off9 oP (by decide) | exact off4 oP | exact e2 | exact fun q => e3 q.symm | omega)]
    have xp : mI M' p = mI M1 p := by rw [n' p (by first | exact op | exact off0 op | exact off9 op (by decide) | exact off4 op | exact fun q => e1 q.symm | exact fun q => e2 q.symm | omega), o155 p (by first | exact op | exact off0 op | exact off9 op (by decide) | exact off4 op | exact fun q => e1 q.symm | exact fun q => e2 q.symm | omega)]
    have xr : ∀ i, mI M' r i = if i = 2 then (a : Int) + 1 else if i = 7 then 1 else if i = 14 then ((skk M r k : Nat) : Int) else mI M r i := fun i => by rw [g', r155]
    have x4' : ∀ j, mI M' (r + 4) j = if j = k then mm else mI M (r + 4) j := fun j => by rw [n' (r + 4) (by omega), x4]
    have cmm : cm (mI M (r + 1) k) mm = 1 := by unfold cm; rw [if_neg (ho_c ho), if_pos ⟨ho, mo⟩]
    refine ⟨⟨h', F155.trans f', fun i i2 i3 i4 i5 i7 i12 i14 => by rw [xr, if_neg i2, if_neg i7, if_neg i14], fun _ => by rw [xr, if_neg (by decide), if_neg (by decide), if_neg (by decide)], fun i i6 i9 => TT i (by omega) i9 (by omega), fun i i2 => by rw [xp, p1, if_neg i2], fun i hi => ⟨by rw [xO]; exact (q1 i (by omega)).1, by rw [xP]; exact (q1 i (by omega)).2⟩, Or.inr ⟨rfl, H1, L1, k + 1, 1, ?_, L01⟩⟩, Or.inr ⟨rfl, fun L9 hL9 => ⟨fun q => absurd q (by rw [xr, if_neg (by decide), if_pos rfl]; decide), fun _ => ?_⟩⟩⟩
    rotate_left
    · have e9 : L9 = L1 := by rw [xp, p1, if_pos rfl] at hL9; exact (Int.ofNat_inj.mp hL9).symm
      rw [e9]
      exact v.comma (k := k) (kk := skk M r k) (L' := L1) (hw1 rfl) hc9 (by rw [g2]; rfl) rfl ho kk14 (by rw [xr, if_neg (by decide), if_neg (by decide), if_neg (by decide), g2]; rfl) (by rw [xr, if_neg (by decide), if_neg (by decide), if_neg (by decide)]) (by rw [xr, if_neg (by decide), if_neg (by decide), if_neg (by decide)]) (by rw [xr, if_neg (by decide), if_neg (by decide), if_neg (by decide)]) (by rw [xr, if_neg (by decide), if_neg (by decide), if_pos rfl]) (fun i i1 i3 => TT i i1 (by omega) (by omega)) (fun i => by rw [x4', (show _ ∧ _ from m3x).1]) (fun i _ => by rw [TT 5 (by decide) (by decide) (by decide)]) (fun q => ⟨(hA0 q).1, by rw [xO]; exact (hA0 q).2.1, by rw [xP]; exact (hA0 q).2.2⟩) (fun q => ⟨(hA1 q).1, fun i => by rw [xO]; exact (hA1 q).2.1 i, fun i => by rw [xP]; exact (hA1 q).2.2 i⟩)
    refine g.goes (o' := mI M (r + 1) k) (m' := mm) ⟨by rw [xr, if_pos rfl], by rw [xr, if_neg (by decide), if_neg (by decide), if_neg (by decide), g2]; omega, by rw [xr, if_neg (by decide), if_pos rfl], by rw [xr, if_neg (by decide), if_neg (by decide), if_pos rfl], by rw [xr, if_neg (by decide), if_neg (by decide), if_neg (by decide)]; exact gd⟩ (fun j => ?_) (fun j => by rw [TT 2 (by omega) (by omega) (by omega)]) (fun j _ => by rw [TT 3 (by omega) (by omega) (by omega)]) x4' (fun j => by rw [TT 5 (by omega) (by omega) (by omega)]; exact gt j) (by rw [xp, p1, if_pos rfl]) L01 (fun j hj => by rw [xO]; exact (q1 j hj).1) H01 (by rw [HL1, cmm]; omega) Hs1 (fun pc p0 pL => ?_) se1 han ⟨ck, ce, rfl, rfl⟩ ?_
    · rw [TT 1 (by omega) (by omega) (by omega)]
      by_cases y : j = k
      · rw [if_pos y, y]
      · rw [if_neg y]
    · rw [xO, xP]
      obtain ⟨c1, c2, c3⟩ := C1 pc p0 pL
      exact ⟨c1, fun q => (c2 q).imp (fun u => pdk (fun j _ => ⟨by rw [TT 1 (by omega) (by omega) (by omega)], by rw [TT 3 (by omega) (by omega) (by omega)]⟩) (by omega) u) (fun u => u), c3⟩
    · unfold enO
      rw [TT 1 (by omega) (by omega) (by omega), TT 2 (by omega) (by omega) (by omega), TT 3 (by omega) (by omega) (by omega), x4', if_pos rfl]
      exact ⟨en1, en2, by omega, fun _ => by omega, fun q => absurd q nj, en6, fun q => by rw [TT 1 (by omega) (by omega) (by omega)] at q; have ho2 := ho; omega⟩

theorem x_ciList {l5 : Int} (g : RG M r p O P n s V F ns d0 H L (k + 1) a 0) (h : RB M z r w T A B D N C n p O P K) (han : a < n) (ho : mI M (r + 1) k = 15 ∨ mI M (r + 1) k = 16) (h5 : l5 = 0 ∨ l5 = 1) (v : RW0 u M r O P s c9 c8 L a) (hw0 : Hid (l5 = 0 → ruW u a = 37)) (hw1 : Hid (l5 = 1 → ruW u a = 35)) (hc9 : c9 ≤ 6) : h_RR_closeInner_165 G d r k 1 l5 M (fun x M' => cliQ M z r w T A B D N C n p O P K s V F ns d0 L a x M' ∧ clV u r p O P s a x M') := by
  have rm := g.room
  have hwN := h.2.2.2.1.2.2.1
  have hN := h.2.2.2.1.1.2.2.2.2.2.2.1
  have hK := h.2.2.2.2.2.2
  obtain ⟨oO, oP, op, e1, e2, e3⟩ := h.off
  obtain ⟨b1, -, b3, -⟩ := sum_top M r k
  have ce : cee (mI M (r + 1) k) = 0 := by unfold cee; rw [if_neg (ho_e ho)]
  have nj : ¬ jm (mI M (r + 1) k) := ho_j ho
  rw [ce] at b3
  have u0 : uw 0 = 1 := rfl
  obtain ⟨⟨g1, g2, g3, g4⟩, -, ⟨-, gs⟩, -, -, -, ge, ⟨gH, gHs⟩, gC, gL, -⟩ := id g
  obtain ⟨-, en2, en3, en4, -, -⟩ := ge k (by omega)
  have m023 : Hid (mI M (r + 4) k = 0 ∨ mI M (r + 4) k = 2 ∨ mI M (r + 4) k = 3) := v.m15 (k := k) hc9 (by rw [g2]; rfl) rfl ho
  have mk2 := mk_and2 (m := mI M (r + 4) k) ⟨en3.1, en4 ho⟩
  obtain ⟨-, ⟨k0, ⟨q8, q9, -, q11, -⟩, ⟨kk1, kk2, -, kk4, -⟩, ⟨nn1, nn2, -, nn4, -⟩⟩, ⟨-, rp1⟩, -, hPK, -⟩ := id h
  refine k_RR_closeInner_165 h.1 ⟨by omega, by omega⟩ (i32s (by omega) (by omega)) (i32s (by omega) (by omega)) ⟨fun y => absurd y (by omega), fun _ => ?_⟩
  rw [q11, q8, q9, nn4, nn1, nn2, Int.toNat_natCast, rp1]
  refine ⟨k0, kk4, by omega, fun y => ?_, fun y => ⟨kk1, by omega, kk2, by omega, hPK.1, (s_Pr_add (n := L) (h.1 _ _).1 (h.1 _ _).1 h.1 hPK g4 (by omega)).mono (fun x M1 q => ?_)⟩⟩
  · have c0 : cm (mI M (r + 1) k) (mI M (r + 4) k) = 0 := by
      have := mk2.resolve_right (fun u => u.1 y)
      unfold cm
      rw [if_neg (ho_c ho), if_neg (fun u => this.2 u.2)]
    rw [c0] at b1
    have m0 : mI M (r + 4) k = 0 := (show _ ∨ _ from m023).resolve_right (mk2.resolve_right (fun u => u.1 y)).2
    exact x_ci201 (H1 := H) (L1 := L) g h han ho ⟨h, FI.refl, fun _ _ _ => rfl, fun i => by
      by_cases v : i = 2
      · rw [if_pos v, v]; exact g4
      · rw [if_neg v], fun _ _ => ⟨rfl, rfl⟩, Nat.le_refl _, fun _ _ => rfl, by omega, gHs, gC, by omega⟩ h5 v hw0 hw1 hc9 (fun _ => ⟨rfl, rfl, rfl⟩) (fun q => absurd m0 q)
  · have c1 : cm (mI M (r + 1) k) (mI M (r + 4) k) = 1 := by
      have := mk2.resolve_left (fun u => y u.1)
      unfold cm
      rw [if_neg (ho_c ho), if_pos ⟨ho, this.2⟩]
    rw [c1] at b1
    obtain ⟨ex, o1, f1, p1, q1, v1⟩ := q
    have f1' : FI (rdS r p O P) M M1 := f1.mono (fun b q => Or.inr q)
    have h1 := h.fi o1 f1'
    obtain ⟨H', hH'⟩ : ∃ H' : Nat → Nat, ∀ i, H' i = if i = L + 1 then 1 + bs M r k else H i := ⟨fun i => if i = L + 1 then 1 + bs M r k else H i, fun _ => rfl⟩
    have hHs : ∀ i, i ≤ L → H' i = H i := fun i hi => by rw [hH', if_neg (by omega)]
    have hHL : H' (L + 1) = 1 + bs M r k := by rw [hH', if_pos rfl]
    have hL0 := hHs L (Nat.le_refl _)
    have m0 : mI M (r + 4) k ≠ 0 := fun q => by rw [q] at y; exact y (by decide)
    refine ⟨⟨by omega, by omega⟩, o1, x_ci201 (H1 := H') (L1 := L + 1) g h han ho ⟨h1, f1', fun b y1 y2 => f1.2.2.2.2.2.2 b (fun q => by
      have q' : b = p ∨ b = O ∨ b = P := q
      first | exact off3 op oO oP (by assumption) (by assumption) q' | omega), fun i => by rw [p1]; rfl, fun i hi => ⟨by rw [q1, if_neg (by omega)], by rw [v1, if_neg (by omega)]⟩, by omega, hHs, hHL, by omega, gC.add gs hHs gHs q1 v1 (fun _ _ u => u) (Or.inr (Or.inr (Or.inr (Or.inr (Or.inr (Or.inr (Or.inl ⟨by first | exact ho.elim (fun e => Or.inl e) (fun e => Or.inr (Or.inl e)) | omega, by omega, by omega⟩))))))) (fun u => absurd u nj), by omega⟩ h5 v hw0 hw1 hc9 (fun q => absurd q m0) (fun _ => ⟨rfl, q1, v1⟩)⟩

theorem x_RR_closeInner {l1 : Int} (i1 : i32 l1) (g : RG M r p O P n s V F ns d0 H L (k + 1) a 0) (h : RB M z r w T A B D N C n p O P K) (han : a < n) (ho : mI M (r + 1) k = 37 ∨ mI M (r + 1) k = 15 ∨ mI M (r + 1) k = 16 ∨ mI M (r + 1) k = 33) (v : RW0 u M r O P s c9 c8 L a) (hl1 : Hid (ruW u a = 37 ↔ l1 = 38)) (hl2 : Hid (ruW u a = 35 ↔ l1 = 36)) (hl3 : Hid (ruW u a = 33 ↔ l1 = 34)) (hc9 : c9 ≤ 6) (hm9 : lwx (ruW u a) = 0) : Ci G y_RR_closeInner (d + 1) [vr r, vi l1, vi k] M (fun x M' => cliQ M z r w T A B D N C n p O P K s V F ns d0 L a x M' ∧ clV u r p O P s a x M') := by
  have rm := g.room
  have hk := g.1.2.1
  obtain ⟨-, ⟨k0, ⟨q8, -, -, q11, -⟩, ⟨kk1, -⟩, ⟨nn1, -⟩⟩, -⟩ := id h
  refine k_RR_closeInner h.1 i1 ⟨by omega, by omega⟩ ?_
  rw [q8, nn1, Int.toNat_natCast, q11]
  refine ⟨k0, kk1, by omega, fun v5 e5 => ⟨by omega, fun _ => by omega, fun v14 e14 v25 e25 => ⟨fun y => ⟨fun y5 => ?_, fun y5 => ?_⟩, fun y => ⟨⟨h, FI.refl, fun _ _ _ _ _ _ _ _ => rfl, fun _ => rfl, fun _ _ _ => rfl, fun _ _ => rfl, fun _ _ => ⟨rfl, rfl⟩, Or.inl ⟨rfl, rfl⟩⟩, Or.inl ⟨rfl, ?_⟩⟩⟩⟩⟩
  · have n33 : mI M (r + 1) k ≠ 33 := fun q => by rw [if_pos q] at e5; omega
    by_cases y15 : mI M (r + 1) k = 15 ∨ mI M (r + 1) k = 16
    · rw [if_pos y15] at e14
      subst e14
      have b25 : v25 = 0 ∨ v25 = 1 := by rw [e25]; split <;> omega
      have c25 : v25 = 1 ↔ l1 = 36 := by
        rw [e25]
        split <;> omega
      refine x_ciList g h han y15 b25 v (fun q => (show _ ↔ _ from hl1).mpr ?_) (fun q => (show _ ↔ _ from hl2).mpr (c25.mp q)) hc9
      rcases y with y | y
      · exact absurd q y
      · exact y.2
    · rw [if_neg y15] at e14
      rw [if_pos (Or.inl ⟨y5, Or.inl e14⟩)] at e25
      subst e14 e25
      refine x_ciOpen h g han (by omega) v ((show _ ↔ _ from hl1).mpr ?_) hc9
      rcases y with y | y
      · exact absurd rfl y
      · exact y.2
  · have y33 : mI M (r + 1) k = 33 := Classical.byContradiction (fun q => y5 (by rw [e5, if_neg q]))
    have z14 : v14 = 0 := by rw [e14, if_neg (by omega)]
    have b25 : v25 = 0 ∨ v25 = 1 := by rw [e25]; split <;> omega
    have z25 : v25 = 1 := by
      rcases y with q | q
      · omega
      · exact absurd q.1 y5
    have c34 : l1 = 34 := by
      refine Classical.byContradiction (fun q => ?_)
      rw [if_pos (Or.inr ⟨y5, q, Or.inl z14⟩)] at e25
      omega
    rw [z14, z25]
    exact x_ciElse h g han y33 v ((show _ ↔ _ from hl3).mpr c34) hc9
  · have b25 : v25 = 0 := Classical.byContradiction (fun q => y (Or.inl q))
    refine v.shut (k := k) (by rw [hk]; rfl) rfl ho (Or.inl (by omega)) (fun q w37 => ?_) (fun q => ⟨fun w37 => ?_, fun w35 => ?_⟩) (fun q w33 => ?_)
    · rw [if_neg (by omega)] at e5
      exact y (Or.inr ⟨e5, (show _ ↔ _ from hl1).mp w37⟩)
    · rw [if_neg (by omega)] at e5
      exact y (Or.inr ⟨e5, (show _ ↔ _ from hl1).mp w37⟩)
    · rw [if_neg (by omega)] at e5
      rw [if_pos q] at e14
      have := (show _ ↔ _ from hl2).mp w35
      rw [if_neg (by omega)] at e25
      omega
    · rw [if_pos q] at e5
      have := (show _ ↔ _ from hl3).mp w33
      rw [if_neg (by omega)] at e25
      omega
end RX5
