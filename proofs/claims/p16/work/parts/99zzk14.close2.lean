theorem tLk1 (g : Nat) : tL g (g + 1) := Or.inl rfl
theorem tLk3 (g : Nat) : tL g (g + 3) := Or.inr (Or.inl rfl)
theorem tLk5 (g : Nat) : tL g (g + 5) := Or.inr (Or.inr (Or.inl rfl))
theorem tLk7 (g : Nat) : tL g (g + 7) := Or.inr (Or.inr (Or.inr (Or.inl rfl)))
theorem tLk9 (g : Nat) : tL g (g + 9) := Or.inr (Or.inr (Or.inr (Or.inr (Or.inl rfl))))
theorem tLk11 (g : Nat) : tL g (g + 11) := Or.inr (Or.inr (Or.inr (Or.inr (Or.inr rfl))))
theorem l33z {a g i : Nat} (hg : g = a + 13 ∨ g = a + 49) (hi : i = 85 ∨ i = 87 ∨ i = 89) (z : ((a + i = g + 1 ∨ a + i = g + 3 ∨ a + i = g + 5 ∨ a + i = g + 7 ∨ a + i = g + 9 ∨ a + i = g + 11) ∨ a + i = a + 91) ∨ (a + i = a + 93 ∨ a + i = a + 95 ∨ a + i = g + 7)) : False := by
  have h1 : g ≤ a + 49 := by omega
  have h2 : 85 ≤ i ∧ i ≤ 89 := by omega
  clear hg hi
  rcases z with (z | z) | z
  · rcases z with z | z | z | z | z | z <;> omega
  · omega
  · rcases z with z | z | z <;> omega
section
/-! The class's reader of rules: closing, its end and ')'. -/
section RRE
variable {G : mG} {d z r w T A B D N C n p O P K k a s L L' V F d0 c : Nat} {M0 M M' M1 M2 : mM} {H H' : Nat → Nat} {ns : Nat → Int} {wt : Int}
/-- what closing comes to -/
def cliQ (M : mM) (z r w T A B D N C n p O P K s V F : Nat) (ns : Nat → Int) (d0 L a : Nat) (x : Int) (M' : mM) : Prop := RB M' z r w T A B D N C n p O P K ∧ FI (rdS r p O P) M M' ∧ (∀ i, i ≠ 2 → i ≠ 3 → i ≠ 4 → i ≠ 5 → i ≠ 7 → i ≠ 12 → i ≠ 14 → mI M' r i = mI M r i) ∧ (mI M r 3 ≠ 0 → mI M' r 3 = mI M r 3) ∧ (∀ i, 6 ≤ i → i ≤ 9 → mI M' (r + i) = mI M (r + i)) ∧ (∀ i, i ≠ 2 → mI M' p i = mI M p i) ∧ (∀ i, i < s → mI M' O i = mI M O i ∧ mI M' P i = mI M P i) ∧ ((x = 2 ∧ M' = M) ∨ (x = 0 ∧ ∃ H' L' k' wt', RG M' r p O P n s V F ns d0 H' L' k' (a + 1) wt' ∧ L ≤ L'))
/-- the end of closing: a word is passed -/
theorem s_ci286 {l5 : Int} {Q : Int → mM → Prop} (h5 : l5 = 0 ∨ l5 = 1) (h : RB M z r w T A B D N C n p O P K) (ha : mI M r 2 = a) (han : a ≤ 16384) (hq : ∀ M', RB M' z r w T A B D N C n p O P K → FI (rdS r p O P) M M' → (∀ i, mI M' r i = if i = 2 then (a : Int) + 1 else if i = 7 then l5 else mI M r i) → (∀ b, b ≠ r → mI M' b = mI M b) → Q 0 M') : h_RR_closeInner_286 G d r l5 M Q := by
  refine k_RR_closeInner_286 h.1 (i32s (by omega) (by omega)) ⟨h.2.1.1, h5, fun M203 e203 => ?_⟩
  obtain ⟨h1, f1, g1, n1⟩ := rb_fld h (i32s (by omega) (by omega)) e203
  have e2 : mI M203 r 2 = a := by rw [g1, if_neg (by decide)]; exact ha
  rw [e2]
  refine ⟨⟨by omega, by omega⟩, fun M206 e206 => ?_⟩
  obtain ⟨h2, f2, g2, n2⟩ := rb_fld h1 ⟨by omega, by omega⟩ e206
  exact hq M206 h2 (f1.trans f2) (fun i => by
    rw [g2]
    by_cases y : i = 2
    · rw [if_pos y, if_pos y]
    · rw [if_neg y, if_neg y, g1]) (fun b hb => by rw [n2 b hb, n1 b hb])
/-- the operation that was open last is taken off, and a word is passed -/
theorem s_ciPop {Q : Int → mM → Prop} (h : RB M z r w T A B D N C n p O P K) (ha : mI M r 2 = a) (han : a ≤ 16384) (hk : mI M r 12 = ((k + 1 : Nat) : Int)) (hk3 : k < 336) {e : Nat} (he : mI M r 5 = ((e + 1 : Nat) : Int)) (he4 : e < 40) (hq : ∀ M', RB M' z r w T A B D N C n p O P K → FI (rdS r p O P) M M' → (∀ i, mI M' r i = if i = 2 then (a : Int) + 1 else if i = 7 then 0 else if i = 5 then (e : Int) else if i = 12 then (k : Int) else mI M r i) → (∀ b, b ≠ r → mI M' b = mI M b) → Q 0 M') : mK M r = 4 ∧ i32 ((mI M r 12) - 1) ∧ ∀ M110, M110 = mUI M r 12 ((mI M r 12) - 1) → i32 ((mI M110 r 5) - 1) ∧ ∀ M113, M113 = mUI M110 r 5 ((mI M110 r 5) - 1) → h_RR_closeInner_286 G d r 0 M113 Q := by
  rw [hk, show ((k + 1 : Nat) : Int) - 1 = (k : Int) by omega]
  refine ⟨h.2.1.1, ⟨by omega, by omega⟩, fun M110 e110 => ?_⟩
  obtain ⟨h1, f1, g1, n1⟩ := rb_fld h ⟨by omega, by omega⟩ e110
  have e5 : mI M110 r 5 = ((e + 1 : Nat) : Int) := by rw [g1, if_neg (by decide)]; exact he
  rw [e5, show ((e + 1 : Nat) : Int) - 1 = (e : Int) by omega]
  refine ⟨⟨by omega, by omega⟩, fun M113 e113 => ?_⟩
  obtain ⟨h2, f2, g2, n2⟩ := rb_fld h1 ⟨by omega, by omega⟩ e113
  refine s_ci286 (a := a) (Or.inl rfl) h2 (by rw [g2, if_neg (by decide), g1, if_neg (by decide)]; exact ha) han (fun M' h' f' g' n' => hq M' h' ((f1.trans f2).trans f') (fun i => ?_) (fun b hb => by rw [n' b hb, n2 b hb, n1 b hb]))
  rw [g']
  by_cases y2 : i = 2
  · rw [if_pos y2, if_pos y2]
  · by_cases y7 : i = 7
    · rw [if_neg y2, if_pos y7, if_neg y2, if_pos y7]
    · rw [if_neg y2, if_neg y7, if_neg y2, if_neg y7, g2]
      by_cases y5 : i = 5
      · rw [if_pos y5, if_pos y5]
      · rw [if_neg y5, if_neg y5, g1]
/-- ')' behind '(' -/
theorem s_ciOpen (h : RB M z r w T A B D N C n p O P K) (g : RG M r p O P n s V F ns d0 H L (k + 1) a 0) (han : a < n) (ho : mI M (r + 1) k = 37 ∨ mI M (r + 1) k = 40 ∨ mI M (r + 1) k = 41) : h_RR_closeInner_165 G d r k 0 0 M (cliQ M z r w T A B D N C n p O P K s V F ns d0 L a) := by
  have rm := g.room
  have hwN := h.2.2.2.1.2.2.1
  have hN := h.2.2.2.1.1.2.2.2.2.2.2.1
  obtain ⟨oO, oP, op, e1, e2, e3⟩ := h.off
  obtain ⟨b1, b2, b3, b4⟩ := sum_top M r k
  have u0 : uw 0 = 1 := rfl
  have cd : cdp (mI M (r + 1) k) = 1 := by unfold cdp; rw [if_pos (by omega)]
  have ck : ckk (mI M (r + 1) k) = 0 := by unfold ckk; rw [if_neg (by omega)]
  have c0 : cm (mI M (r + 1) k) (mI M (r + 4) k) = 0 := by unfold cm; rw [if_neg (by omega), if_neg (by omega)]
  have nj : ¬ jm (mI M (r + 1) k) := by unfold jm; omega
  rw [cd] at b4
  rw [ck] at b2
  rw [c0] at b1
  obtain ⟨⟨g1, g2, g3, g4⟩, -, ⟨-, gs⟩, gc, ⟨gd, gd4⟩, -, -, ⟨gH, gHs⟩, gC, gL, gt⟩ := id g
  refine k_RR_closeInner_165 h.1 ⟨by omega, by omega⟩ (i32s (by omega) (by omega)) (i32s (by omega) (by omega)) ⟨fun _ => ⟨fun _ => ⟨fun _ => ?_, fun y => absurd rfl y⟩, fun y => absurd (Or.inl rfl) y⟩, fun y => absurd rfl y⟩
  refine s_ciPop (a := a) (k := k) (e := d0 + sdp M r k) h g1 (by omega) g2 (by omega) (by rw [gd, b4]; rfl) (by omega) (fun M' h' f' g' n' => ?_)
  have nt : ∀ i, 1 ≤ i → mI M' (r + i) = mI M (r + i) := fun i hi => n' (r + i) (by omega)
  refine ⟨h', f', fun i i2 i3 i4 i5 i7 i12 i14 => by rw [g', if_neg i2, if_neg i7, if_neg i5, if_neg i12], fun _ => by rw [g', if_neg (by decide), if_neg (by decide), if_neg (by decide), if_neg (by decide)], fun i i6 i9 => nt i (by omega), fun i _ => by rw [n' p (by first | exact op | exact off0 op | exact off9 op (by decide) | exact off4 op | exact fun q => e1 q.symm | exact fun q => e2 q.symm | omega)], fun i _ => by rw [n' O (by first | exact oO | exact off0 oO | exact off9 oO (by decide) | exact off4 oO | exact e1 | exact e3 | omega), n' P (by first | exact oP | exact off0 oP | exact off9 oP (by decide) | exact off4 oP | exact e2 | exact fun q => e3 q.symm | omega)]; exact ⟨rfl, rfl⟩, Or.inr ⟨rfl, H, L, k, 0, ?_, Nat.le_refl _⟩⟩
  refine g.popc ⟨by rw [g', if_pos rfl], by rw [g', if_neg (by decide), if_neg (by decide), if_neg (by decide), if_pos rfl], by rw [g', if_neg (by decide), if_pos rfl], by rw [g', if_neg (by decide), if_neg (by decide), if_neg (by decide), if_neg (by decide), gc, b2]; omega, by rw [g', if_neg (by decide), if_neg (by decide), if_pos rfl]⟩ (fun j _ => by rw [nt 1 (by omega)]) (fun j _ => by rw [nt 2 (by omega)]) (fun j _ => by rw [nt 3 (by omega)]) (fun j _ => by rw [nt 4 (by omega)]) (fun j => by rw [nt 5 (by omega)]; exact gt j) (by rw [n' p (by first | exact op | exact off0 op | exact off9 op (by decide) | exact off4 op | exact fun q => e1 q.symm | exact fun q => e2 q.symm | omega)]; exact g4) (Nat.le_refl _) (fun j _ => by rw [n' O (by first | exact oO | exact off0 oO | exact off9 oO (by decide) | exact off4 oO | exact e1 | exact e3 | omega)]) (fun _ _ => rfl) (by omega) gHs (fun pc p0 p1 => ?_) (by omega) han
  rw [n' O (by first | exact oO | exact off0 oO | exact off9 oO (by decide) | exact off4 oO | exact e1 | exact e3 | omega), n' P (by first | exact oP | exact off0 oP | exact off9 oP (by decide) | exact off4 oP | exact e2 | exact fun q => e3 q.symm | omega)]
  obtain ⟨a1, a2, a3⟩ := gC pc p0 p1
  refine ⟨a1, fun q => ?_, a3⟩
  rcases a2 q with ⟨j, j1, j2, j3⟩ | v
  · have jk : j ≠ k := fun y => nj (by rw [← y]; exact j3)
    exact Or.inl ⟨j, by omega, by rw [nt 3 (by omega)]; exact j2, by rw [nt 1 (by omega)]; exact j3⟩
  · exact Or.inr v
end RRE
end
section
/-! The class's reader of rules: ':' behind '?'. -/
section RRF
variable {G : mG} {d z r w T A B D N C n p O P K k a s L L' V F d0 c : Nat} {M0 M M' M1 M2 : mM} {H H' : Nat → Nat} {ns : Nat → Int} {wt : Int}
theorem s_ciElse (h : RB M z r w T A B D N C n p O P K) (g : RG M r p O P n s V F ns d0 H L (k + 1) a 0) (han : a < n) (ho : mI M (r + 1) k = 33) : mK M (r + 4) = 30 ∧ ((0 : Int) ≤ (k : Int) ∧ (k : Int) < (mN M (r + 4) : Int)) ∧ Ci G y_RR_popKind d [vr r] M (fun x40 M39 => i32 x40 ∧ mOk M39 ∧ (∀ v43 : Int, v43 = (if (x40 = 0) then 0 else 4) → mK M39 (r + 4) = 30 ∧ ((0 : Int) ≤ (k : Int) ∧ (k : Int) < (mN M39 (r + 4) : Int)) ∧ ∀ M49, M49 = mUI M39 (r + 4) k (orI (mI M (r + 4) k) v43) → mK M49 r = 4 ∧ mK M49 (mR M49 r 1) = 6 ∧ Ci G y_Pr_add d [vr (mR M49 r 1), vi 42, vi 0] M49 (fun x54 M53 => i32 x54 ∧ mOk M53 ∧ (mK M53 r = 4 ∧ mK M53 (mR M53 r 1) = 6 ∧ mK M53 (mR M53 r 10) = 30 ∧ ((0 : Int) ≤ (k : Int) ∧ (k : Int) < (mN M53 (mR M53 r 10) : Int)) ∧ mK M53 (mR M53 (mR M53 r 1) 1) = 30 ∧ ((0 : Int) ≤ mI M53 (mR M53 r 10) k ∧ mI M53 (mR M53 r 10) k < (mN M53 (mR M53 (mR M53 r 1) 1) : Int)) ∧ ∀ M62, M62 = mUI M53 (mR M53 (mR M53 r 1) 1) (Int.toNat (mI M53 (mR M53 r 10) k)) (mI M53 (mR M53 r 1) 2) → mK M62 (mR M62 r 10) = 30 ∧ ((0 : Int) ≤ (k : Int) ∧ (k : Int) < (mN M62 (mR M62 r 10) : Int)) ∧ ∀ M66, M66 = mUI M62 (mR M62 r 10) k x54 → mK M66 (mR M66 r 8) = 30 ∧ ((0 : Int) ≤ (k : Int) ∧ (k : Int) < (mN M66 (mR M66 r 8) : Int)) ∧ ∀ M70, M70 = mUI M66 (mR M66 r 8) k 42 → h_RR_closeInner_165 G d r k 0 1 M70 (cliQ M z r w T A B D N C n p O P K s V F ns d0 L a))))) := by
  have rm := g.room
  have hwN := h.2.2.2.1.2.2.1
  have hN := h.2.2.2.1.1.2.2.2.2.2.2.1
  have hK := h.2.2.2.2.2.2
  obtain ⟨oO, oP, op, e1, e2, e3⟩ := h.off
  obtain ⟨b1, b2, b3, b4⟩ := sum_top M r k
  have u0 : uw 0 = 1 := rfl
  have z1 : cdp 33 = 1 := rfl
  have z2 : ckk 33 = 0 := rfl
  have z3 : cee 33 = 0 := rfl
  have z4 : ∀ m, cm 33 m = 0 := fun m => by unfold cm; rw [if_neg (by omega), if_neg (by omega)]
  have z5 : ∀ m, cm 42 m = 0 := fun m => by unfold cm; rw [if_neg (by omega), if_neg (by omega)]
  rw [ho] at b1 b2 b3 b4
  rw [z4] at b1
  obtain ⟨⟨g1, g2, g3, g4⟩, -, ⟨-, gs⟩, gc, ⟨gd, gd4⟩, -, ge, ⟨gH, gHs⟩, gC, gL, gt⟩ := id g
  obtain ⟨en1, en2, en3, en4, en5, -, en7⟩ := ge k (by omega)
  obtain ⟨t, t1, t2, t3, t4, t5, t6⟩ := en5 (by rw [ho]; exact Or.inr (Or.inr (Or.inl rfl)))
  rw [ho] at t4
  have pl : ∀ {Mx : mM}, RB Mx z r w T A B D N C n p O P K → (mR Mx r 8 = r + 1 ∧ mR Mx r 10 = r + 3) ∧ (mK Mx (r + 1) = 30 ∧ mK Mx (r + 3) = 30 ∧ mK Mx (r + 4) = 30) ∧ (mN Mx (r + 1) = 336 ∧ mN Mx (r + 3) = 336 ∧ mN Mx (r + 4) = 336) ∧ (mR Mx r 1 = p ∧ mR Mx p 1 = P ∧ mK Mx P = 30 ∧ mN Mx P = K) := fun hx => by
    obtain ⟨-, ⟨-, ⟨a1, a2, a3, a4, -⟩, ⟨b1, b2, b3, b4, -⟩, ⟨c1, c2, c3, c4, -⟩⟩, ⟨-, r1⟩, -, ⟨-, ⟨-, p1⟩, ⟨-, p2, -, p3⟩, -⟩, -⟩ := hx
    exact ⟨⟨a1, a3⟩, ⟨b1, b3, b4⟩, ⟨c1, c3, c4⟩, r1, p1, p2, p3⟩
  refine ⟨(pl h).2.1.2.2, by rw [(pl h).2.2.1.2.2]; omega, (s_RR_popKind (c := skk M r k) h (by rw [gc, b2, z2]; omega) (by omega)).mono (fun x40 M39 q => ?_)⟩
  obtain ⟨hx, h39, f39, r39⟩ := q
  have n39 : ∀ b, b ≠ r → mI M39 b = mI M b := fun b hb => f39.2.2.2.2.2.2 b hb
  have f39' : FI (rdS r p O P) M M39 := f39.mono (fun b q => Or.inl ⟨by omega, by omega⟩)
  refine ⟨i32s (by omega) (by omega), h39.1, fun v43 e43 => ⟨(pl h39).2.1.2.2, by rw [(pl h39).2.2.1.2.2]; omega, fun M49 e49 => ?_⟩⟩
  have b43 : v43 = 0 ∨ v43 = 4 := by rw [e43]; split <;> omega
  have mb := mk_or4 en3 b43
  obtain ⟨h49, f49, g49, n49⟩ := rb_tab h39 (i := 4) (by omega) (by omega) (i32s (by omega) (by omega)) e49
  have hPK := h49.2.2.2.2.1
  rw [(pl h49).2.2.2.1]
  refine ⟨h49.2.1.1, hPK.1, (s_Pr_add (n := L) (i32s (by omega) (by omega)) (i32s (by omega) (by omega)) h49.1 hPK (by rw [n49 p (by first | exact op | exact off0 op | exact off9 op (by decide) | exact off4 op | exact fun q => e1 q.symm | exact fun q => e2 q.symm | omega), n39 p (by first | exact op | exact off0 op | exact off9 op (by decide) | exact off4 op | exact fun q => e1 q.symm | exact fun q => e2 q.symm | omega)]; exact g4) (by omega)).mono (fun x54 M53 q => ?_)⟩
  obtain ⟨ex, o53, f53, p53, q53, u53⟩ := q
  have f53' : FI (rdS r p O P) M49 M53 := f53.mono (fun b q => Or.inr q)
  have h53 := h49.fi o53 f53'
  have Y : ∀ b, r ≤ b → b ≤ r + 9 → mI M53 b = mI M49 b := fun b y1 y2 => f53.2.2.2.2.2.2 b (fun q => by
    have q' : b = p ∨ b = O ∨ b = P := q
    first | exact off3 op oO oP (by assumption) (by assumption) q' | omega)
  have o3 : mI M53 (r + 3) k = t := by rw [Y (r + 3) (by omega) (by omega), n49 (r + 3) (by omega), n39 (r + 3) (by omega)]; exact t1
  have KK := hPK.2.2.2.2.2.1
  rw [(pl h53).2.2.2.1, (pl h53).1.2, (pl h53).2.2.2.2.1, (pl h53).2.2.2.2.2.2, (pl h53).2.2.1.2.1, o3, Int.toNat_natCast, p53, if_pos rfl]
  refine ⟨⟨by omega, by omega⟩, o53, h53.2.1.1, h53.2.2.2.2.1.1, (pl h53).2.1.2.1, by omega, (pl h53).2.2.2.2.2.1, by omega, fun M62 e62 => ?_⟩
  have f62 : FI (rdS r p O P) M53 M62 := by rw [e62]; exact FI.ui (Or.inr (Or.inr (Or.inr rfl)))
  have h62 := h53.fi (by rw [e62]; exact mOk_UI o53 ⟨by omega, by omega⟩) f62
  have n62 : ∀ b, b ≠ P → mI M62 b = mI M53 b := fun b hb => by rw [e62]; funext i; rw [mI_UI, if_neg (fun q => hb q.1)]
  rw [(pl h62).1.2, (pl h62).2.2.1.2.1]
  refine ⟨(pl h62).2.1.2.1, by omega, fun M66 e66 => ?_⟩
  obtain ⟨h66, f66, g66, n66⟩ := rb_tab h62 (i := 3) (by omega) (by omega) (by rw [ex]; exact ⟨by omega, by omega⟩) e66
  rw [(pl h66).1.1, (pl h66).2.2.1.1]
  refine ⟨(pl h66).2.1.1, by omega, fun M70 e70 => ?_⟩
  obtain ⟨h70, f70, g70, n70⟩ := rb_tab h66 (i := 1) (by omega) (by omega) (i32s (by omega) (by omega)) e70
  have r70 : mI M70 r = mI M39 r := by rw [n70 r (by omega), n66 r (by omega), n62 r (by first | exact fof0 oP | omega), Y r (by omega) (by omega), n49 r (by omega)]
  refine k_RR_closeInner_165 h70.1 ⟨by omega, by omega⟩ (i32s (by omega) (by omega)) (i32s (by omega) (by omega)) ⟨fun _ => ⟨fun _ => ⟨fun y => absurd y (by omega), fun _ => ?_⟩, fun y => absurd (Or.inl rfl) y⟩, fun y => absurd rfl y⟩
  refine s_ci286 (a := a) (Or.inr rfl) h70 (by rw [r70, r39, if_neg (by decide)]; exact g1) (by omega) (fun M' h' f' g' n' => ?_)
  have x1 : ∀ j, mI M' (r + 1) j = if j = k then 42 else mI M (r + 1) j := fun j => by
    rw [n' (r + 1) (by omega), g70, n66 (r + 1) (by omega), n62 (r + 1) (by first | exact fof9 oP (by decide) | omega), Y (r + 1) (by omega) (by omega), n49 (r + 1) (by omega), n39 (r + 1) (by omega)]
  have x2 : mI M' (r + 2) = mI M (r + 2) := by
    rw [n' (r + 2) (by omega), n70 (r + 2) (by omega), n66 (r + 2) (by omega), n62 (r + 2) (by first | exact fof9 oP (by decide) | omega), Y (r + 2) (by omega) (by omega), n49 (r + 2) (by omega), n39 (r + 2) (by omega)]
  have x3 : ∀ j, mI M' (r + 3) j = if j = k then (L : Int) else mI M (r + 3) j := fun j => by
    rw [n' (r + 3) (by omega), n70 (r + 3) (by omega), g66, n62 (r + 3) (by first | exact fof9 oP (by decide) | omega), Y (r + 3) (by omega) (by omega), n49 (r + 3) (by omega), n39 (r + 3) (by omega), ex]
  have x4 : ∀ j, mI M' (r + 4) j = if j = k then orI (mI M (r + 4) k) v43 else mI M (r + 4) j := fun j => by
    rw [n' (r + 4) (by omega), n70 (r + 4) (by omega), n66 (r + 4) (by omega), n62 (r + 4) (by first | exact fof9 oP (by decide) | omega), Y (r + 4) (by omega) (by omega), g49, n39 (r + 4) (by omega)]
  have x5 : ∀ i, 5 ≤ i → i ≤ 9 → mI M' (r + i) = mI M (r + i) := fun i i5 i9 => by
    rw [n' (r + i) (by omega), n70 (r + i) (by omega), n66 (r + i) (by omega), n62 (r + i) (by first | exact fof9 oP (by assumption) | omega), Y (r + i) (by omega) (by omega), n49 (r + i) (by omega), n39 (r + i) (by omega)]
  have xp : ∀ i, mI M' p i = if i = 2 then (L : Int) + 1 else mI M p i := fun i => by
    rw [n' p (by first | exact op | exact off0 op | exact off9 op (by decide) | exact off4 op | exact fun q => e1 q.symm | exact fun q => e2 q.symm | omega), n70 p (by first | exact op | exact off0 op | exact off9 op (by decide) | exact off4 op | exact fun q => e1 q.symm | exact fun q => e2 q.symm | omega), n66 p (by first | exact op | exact off0 op | exact off9 op (by decide) | exact off4 op | exact fun q => e1 q.symm | exact fun q => e2 q.symm | omega), n62 p (by first | exact op | exact off0 op | exact off9 op (by decide) | exact off4 op | exact fun q => e1 q.symm | exact fun q => e2 q.symm | omega), p53, n49 p (by first | exact op | exact off0 op | exact off9 op (by decide) | exact off4 op | exact fun q => e1 q.symm | exact fun q => e2 q.symm | omega), n39 p (by first | exact op | exact off0 op | exact off9 op (by decide) | exact off4 op | exact fun q => e1 q.symm | exact fun q => e2 q.symm | omega)]
  have xO : ∀ i, mI M' O i = mI M53 O i := fun i => by
    rw [n' O (by first | exact oO | exact off0 oO | exact off9 oO (by decide) | exact off4 oO | exact e1 | exact e3 | omega), n70 O (by first | exact oO | exact off0 oO | exact off9 oO (by decide) | exact off4 oO | exact e1 | exact e3 | omega), n66 O (by first | exact oO | exact off0 oO | exact off9 oO (by decide) | exact off4 oO | exact e1 | exact e3 | omega), n62 O (by first | exact oO | exact off0 oO | exact off9 oO (by decide) | exact off4 oO | exact e1 | exact e3 | omega)]
  have yO : ∀ i, mI M53 O i = if i = L then 42 else mI M O i := fun i => by rw [q53, n49 O (by first | exact oO | exact off0 oO | exact off9 oO (by decide) | exact off4 oO | exact e1 | exact e3 | omega), n39 O (by first | exact oO | exact off0 oO | exact off9 oO (by decide) | exact off4 oO | exact e1 | exact e3 | omega)]
  have yP : ∀ i, mI M53 P i = if i = L then 0 else mI M P i := fun i => by rw [u53, n49 P (by first | exact oP | exact off0 oP | exact off9 oP (by decide) | exact off4 oP | exact e2 | exact fun q => e3 q.symm | omega), n39 P (by first | exact oP | exact off0 oP | exact off9 oP (by decide) | exact off4 oP | exact e2 | exact fun q => e3 q.symm | omega)]
  have xP : ∀ i, mI M' P i = if i = t then (L : Int) + 1 else mI M53 P i := fun i => by
    rw [n' P (by first | exact oP | exact off0 oP | exact off9 oP (by decide) | exact off4 oP | exact e2 | exact fun q => e3 q.symm | omega), n70 P (by first | exact oP | exact off0 oP | exact off9 oP (by decide) | exact off4 oP | exact e2 | exact fun q => e3 q.symm | omega), n66 P (by first | exact oP | exact off0 oP | exact off9 oP (by decide) | exact off4 oP | exact e2 | exact fun q => e3 q.symm | omega), e62, mI_UI]
    by_cases y : i = t
    · rw [if_pos ⟨rfl, y⟩, if_pos y]
    · rw [if_neg (fun q => y q.2), if_neg y]
  have xr : ∀ i, mI M' r i = if i = 2 then (a : Int) + 1 else if i = 7 then 1 else if i = 14 then ((skk M r k : Nat) : Int) else mI M r i := fun i => by rw [g', r70, r39]
  refine ⟨h', (((((f39'.trans f49).trans f53').trans f62).trans f66).trans f70).trans f', fun i i2 i3 i4 i5 i7 i12 i14 => by rw [xr, if_neg i2, if_neg i7, if_neg i14], fun _ => by rw [xr, if_neg (by decide), if_neg (by decide), if_neg (by decide)], fun i i6 i9 => x5 i (by omega) i9, fun i i2 => by rw [xp, if_neg i2], fun i hi => ⟨by rw [xO, yO, if_neg (by omega)], by rw [xP, if_neg (by omega), yP, if_neg (by omega)]⟩, Or.inr ⟨rfl, ?_⟩⟩
  obtain ⟨H', hH'⟩ : ∃ H' : Nat → Nat, ∀ i, H' i = if i = L + 1 then bs M r k else H i := ⟨fun i => if i = L + 1 then bs M r k else H i, fun _ => rfl⟩
  have hHs : ∀ i, i ≤ L → H' i = H i := fun i hi => by rw [hH', if_neg (by omega)]
  have hHL : H' (L + 1) = bs M r k := by rw [hH', if_pos rfl]
  have hL0 := hHs L (Nat.le_refl _)
  have ht0 := hHs t (by omega)
  refine ⟨H', L + 1, k + 1, 1, ?_, by omega⟩
  clear f39 f49 f53 f62 f66 f70 f' f39' f53' n39 n49 n62 n66 n70 n' Y e43 e49 e62 e66 e70 p53 q53 u53 pl
  have c53 : CO M53 O P V F ns H' s (L + 1) (fun i => pdg M r (k + 1) i ∨ i = L) := gC.add gs hHs gHs yO yP (fun i _ q => Or.inl q) (Or.inr (Or.inr (Or.inr (Or.inr (Or.inl ⟨rfl, by omega⟩))))) (fun _ => Or.inl (Or.inr rfl))
  have bsk : bs M' r k = bs M r k := (sums_cg (M := M) (M' := M') (r := r) (k := k) (fun j hj => by rw [x1, if_neg (by omega)]) (fun j hj => by rw [x4, if_neg (by omega)]) k (Nat.le_refl _)).1
  refine g.goes (o' := 42) (m' := orI (mI M (r + 4) k) v43) ⟨by rw [xr, if_pos rfl], by rw [xr, if_neg (by decide), if_neg (by decide), if_neg (by decide), g2]; omega, by rw [xr, if_neg (by decide), if_pos rfl], by rw [xr, if_neg (by decide), if_neg (by decide), if_pos rfl], by rw [xr, if_neg (by decide), if_neg (by decide), if_neg (by decide)]; exact gd⟩ x1 (fun j => by rw [x2]) (fun j hj => by rw [x3, if_neg (by omega)]) x4 (fun j => by rw [x5 5 (by omega) (by omega)]; exact gt j) (by rw [xp, if_pos rfl]; omega) (by omega) (fun j hj => by rw [xO, yO, if_neg (by omega)]) hHs (by rw [hHL, z5]; rfl) (by omega) ?_ (by omega) han ⟨rfl, rfl, by rw [ho]; rfl, by rw [ho]; rfl⟩ ?_
  · have ot : mI M53 O t = 33 := by rw [yO, if_neg (by omega)]; exact t4
    refine c53.put (t := t) (x := (L : Int) + 1) (by rw [ot]; exact Or.inr (Or.inr (Or.inl rfl))) xO xP (fun i hi it q => ?_) ⟨L + 1, by omega, by omega, Nat.le_refl _, fun _ => by omega, fun q => absurd ot q⟩
    rcases q with ⟨j, j1, j2, j3⟩ | q
    · have jk : j ≠ k := fun y => it (by rw [y, t1] at j2; omega)
      exact ⟨j, j1, by rw [x3, if_neg jk]; exact j2, by rw [x1, if_neg jk]; exact j3⟩
    · exact ⟨k, by omega, by rw [x3, if_pos rfl, q], by rw [x1, if_pos rfl]; exact Or.inr (Or.inr (Or.inr rfl))⟩
  · unfold enO
    rw [x1, if_pos rfl, x2, x3, if_pos rfl, x4, if_pos rfl, bsk]
    exact ⟨by unfold opn; omega, en2, mb, fun q => absurd q (by omega), fun _ => ⟨L, rfl, gs, by omega, by rw [xO, yO, if_pos rfl], by omega, fun q => absurd rfl q⟩, fun q => absurd (Or.inr (Or.inr (Or.inr rfl))) q, fun _ j hj => by rw [x1, if_neg (by omega)]; exact en7 (Or.inl ho) j hj⟩
end RRF
end
section
/-! The class's reader of rules: ',' and ')' of least and most. -/
section RRI
variable {G : mG} {d z r w T A B D N C n p O P K k a s L L1 V F d0 c : Nat} {M0 M M' M1 M2 : mM} {H H1 : Nat → Nat} {ns : Nat → Int} {wt : Int}
/-- the order of a list, if there is one, stands -/
def liA (M : mM) (z r w T A B D N C n p O P K s V F : Nat) (ns : Nat → Int) (H : Nat → Nat) (L k a : Nat) (H1 : Nat → Nat) (L1 : Nat) (M1 : mM) : Prop := RB M1 z r w T A B D N C n p O P K ∧ FI (rdS r p O P) M M1 ∧ (∀ b, r ≤ b → b ≤ r + 9 → mI M1 b = mI M b) ∧ (∀ i, mI M1 p i = if i = 2 then (L1 : Int) else mI M p i) ∧ (∀ i, i < L → mI M1 O i = mI M O i ∧ mI M1 P i = mI M P i) ∧ L ≤ L1 ∧ (∀ i, i ≤ L → H1 i = H i) ∧ H1 L1 = 1 + bs M r k ∧ H1 L1 + s ≤ L1 ∧ CO M1 O P V F ns H1 s L1 (pdg M r (k + 1)) ∧ L1 + se M r k ≤ a + 1
theorem s_ci201 {l5 : Int} (g : RG M r p O P n s V F ns d0 H L (k + 1) a 0) (h0 : RB M z r w T A B D N C n p O P K) (han : a < n) (ho : mI M (r + 1) k = 15 ∨ mI M (r + 1) k = 16) (hl : liA M z r w T A B D N C n p O P K s V F ns H L k a H1 L1 M1) (h5 : l5 = 0 ∨ l5 = 1) : h_RR_closeInner_201 G d r k 1 l5 M1 (cliQ M z r w T A B D N C n p O P K s V F ns d0 L a) := by
  have rm := g.room
  have hwN := h0.2.2.2.1.2.2.1
  have hN := h0.2.2.2.1.1.2.2.2.2.2.2.1
  obtain ⟨oO, oP, op, e1, e2, e3⟩ := h0.off
  obtain ⟨b1, b2, b3, b4⟩ := sum_top M r k
  have cd : cdp (mI M (r + 1) k) = 1 := by unfold cdp; rw [if_pos (by omega)]
  have ck : ckk (mI M (r + 1) k) = 0 := by unfold ckk; rw [if_neg (by omega)]
  have ce : cee (mI M (r + 1) k) = 0 := by unfold cee; rw [if_neg (by omega)]
  have nj : ¬ jm (mI M (r + 1) k) := by unfold jm; omega
  rw [cd] at b4
  rw [ck] at b2
  have u0 : uw 0 = 1 := rfl
  obtain ⟨⟨g1, g2, g3, g4⟩, -, ⟨-, gs⟩, gc, ⟨gd, gd4⟩, -, ge, -, -, -, gt⟩ := id g
  obtain ⟨en1, en2, en3, en4, -, en6, -⟩ := ge k (by omega)
  obtain ⟨h1, f1, t1, p1, q1, L01, H01, HL1, Hs1, C1, se1⟩ := hl
  have m3 := en4 ho
  have pdk : ∀ {Mx : mM} {kk i : Nat}, (∀ j, j < k → mI Mx (r + 1) j = mI M (r + 1) j ∧ mI Mx (r + 3) j = mI M (r + 3) j) → k ≤ kk → pdg M r (k + 1) i → pdg Mx r kk i := fun {Mx kk i} hx hk q => by
    obtain ⟨j, j1, j2, j3⟩ := q
    have jk : j ≠ k := fun y => nj (by rw [← y]; exact j3)
    exact ⟨j, by omega, by rw [(hx j (by omega)).2]; exact j2, by rw [(hx j (by omega)).1]; exact j3⟩
  have pl : ∀ {Mx : mM}, RB Mx z r w T A B D N C n p O P K → (mR Mx r 9 = r + 2 ∧ mR Mx r 11 = r + 4) ∧ (mK Mx (r + 2) = 30 ∧ mK Mx (r + 4) = 30) ∧ (mN Mx (r + 2) = 336 ∧ mN Mx (r + 4) = 336) := fun hx => by
    obtain ⟨-, ⟨-, ⟨a1, a2, a3, a4, -⟩, ⟨b1, b2, b3, b4, -⟩, ⟨c1, c2, c3, c4, -⟩⟩, -⟩ := hx
    exact ⟨⟨a2, a4⟩, ⟨b2, b4⟩, c2, c4⟩
  refine k_RR_closeInner_201 h1.1 ⟨by omega, by omega⟩ (i32s (by omega) (by omega)) (i32s (by omega) (by omega)) ?_
  rw [(pl h1).1.2, (pl h1).2.2.2, Int.toNat_natCast, t1 (r + 4) (by omega) (by omega)]
  refine ⟨h1.2.1.1, (pl h1).2.1.2, by omega, (s_RR_popKind (c := skk M r k) h1 (by rw [t1 r (by omega) (by omega), gc, b2]; omega) (by omega)).mono (fun x145 M144 q => ?_)⟩
  obtain ⟨hx, h144, f144, r144⟩ := q
  have n144 : ∀ b, b ≠ r → mI M144 b = mI M1 b := fun b hb => f144.2.2.2.2.2.2 b hb
  have f144' : FI (rdS r p O P) M1 M144 := f144.mono (fun b q => Or.inl ⟨by omega, by omega⟩)
  refine ⟨i32s (by omega) (by omega), h144.1, fun v148 e148 => ⟨(pl h144).2.1.2, by rw [(pl h144).2.2.2]; omega, fun M155 e155 => ?_⟩⟩
  have b148 : v148 = 0 ∨ v148 = 1 := by rw [e148]; split <;> omega
  have mo := mk_or (m := mI M (r + 4) k) ⟨en3.1, m3⟩ b148
  generalize hmm : orI (mI M (r + 4) k) (orI 2 v148) = mm at *
  obtain ⟨h155, f155, g155, n155⟩ := rb_tab h144 (i := 4) (by omega) (by omega) (i32s (by omega) (by omega)) e155
  have F155 : FI (rdS r p O P) M M155 := (f1.trans f144').trans f155
  have r155 : ∀ i, mI M155 r i = if i = 14 then ((skk M r k : Nat) : Int) else mI M r i := fun i => by rw [n155 r (by omega), r144, t1 r (by omega) (by omega)]
  have t155 : ∀ i, 1 ≤ i → i ≤ 9 → i ≠ 4 → mI M155 (r + i) = mI M (r + i) := fun i i1 i9 i4 => by rw [n155 (r + i) (by omega), n144 (r + i) (by omega), t1 (r + i) (by omega) (by omega)]
  have x4 : ∀ j, mI M155 (r + 4) j = if j = k then mm else mI M (r + 4) j := fun j => by rw [g155, n144 (r + 4) (by omega), t1 (r + 4) (by omega) (by omega)]
  have o155 : ∀ b, (b < r ∨ r + 9 < b) → mI M155 b = mI M1 b := fun b hb => by rw [n155 b (by omega), n144 b (by omega)]
  rcases h5 with y5 | y5
  · -- ')'
    subst y5
    have fin : ∀ {My : mM}, gI M155 z r w T A B D N C n p O P K (k + 1) (skk M r k) My → h_RR_closeInner_256 G d r 0 My (cliQ M z r w T A B D N C n p O P K s V F ns d0 L a) := fun {My} hy => by
      obtain ⟨hb, fb, rb, ⟨rb12, rb14⟩, rb3, nb, tb⟩ := hy
      refine k_RR_closeInner_256 hb.1 (i32s (by omega) (by omega)) ⟨hb.2.1.1, (s_RR_pushKind (Or.inl rfl) hb rb14 (by omega)).mono (fun M189 q => ?_)⟩
      obtain ⟨h189, f189, r189, t189⟩ := q
      have n189 : ∀ b, b ≠ r → b ≠ r + 5 → mI M189 b = mI My b := fun b y1 y2 => f189.2.2.2.2.2.2 b (fun q => by have q' : b = r ∨ b = r + 5 := q; first | exact rin5 q' | exact nin5 (by assumption) (by assumption) q' | omega)
      refine ⟨h189.1, fun _ => ?_, fun y => absurd rfl y⟩
      refine s_ciPop (a := a) (k := k) (e := d0 + sdp M r k) h189 (by rw [r189, if_neg (by decide), rb 2 (by decide) (by decide) (by decide) (by decide), r155, if_neg (by decide)]; exact g1) (by omega) (by rw [r189, if_neg (by decide)]; exact rb12) (by omega) (by rw [r189, if_neg (by decide), rb 5 (by decide) (by decide) (by decide) (by decide), r155, if_neg (by decide), gd, b4]; rfl) (by omega) (fun M' h' f' g' n' => ?_)
      have X : ∀ b, b ≠ r → b ≠ r + 5 → mI M' b = mI M155 b := fun b y1 y2 => by rw [n' b y1, n189 b y1 y2, nb b y1 y2]
      have TT : ∀ i, 1 ≤ i → i ≤ 9 → i ≠ 4 → i ≠ 5 → mI M' (r + i) = mI M (r + i) := fun i i1 i9 i4 i5 => by rw [X (r + i) (by omega) (by omega), t155 i i1 i9 i4]
      have xO : mI M' O = mI M1 O := by rw [X O (by first | exact oO | exact off0 oO | exact off9 oO (by decide) | exact off4 oO | exact e1 | exact e3 | omega) (by first | exact oO | exact off0 oO | exact off9 oO (by decide) | exact off4 oO | exact e1 | exact e3 | omega), o155 O (by first | exact oO | exact off0 oO | exact off9 oO (by decide) | exact off4 oO | exact e1 | exact e3 | omega)]
      have xP : mI M' P = mI M1 P := by rw [X P (by first | exact oP | exact off0 oP | exact off9 oP (by decide) | exact off4 oP | exact e2 | exact fun q => e3 q.symm | omega) (by first | exact oP | exact off0 oP | exact off9 oP (by decide) | exact off4 oP | exact e2 | exact fun q => e3 q.symm | omega), o155 P (by first | exact oP | exact off0 oP | exact off9 oP (by decide) | exact off4 oP | exact e2 | exact fun q => e3 q.symm | omega)]
      have xp : mI M' p = mI M1 p := by rw [X p (by first | exact op | exact off0 op | exact off9 op (by decide) | exact off4 op | exact fun q => e1 q.symm | exact fun q => e2 q.symm | omega) (by first | exact op | exact off0 op | exact off9 op (by decide) | exact off4 op | exact fun q => e1 q.symm | exact fun q => e2 q.symm | omega), o155 p (by first | exact op | exact off0 op | exact off9 op (by decide) | exact off4 op | exact fun q => e1 q.symm | exact fun q => e2 q.symm | omega)]
      have RR : ∀ i, i ≠ 2 → i ≠ 7 → i ≠ 5 → i ≠ 12 → i ≠ 14 → mI M' r i = mI My r i := fun i i2 i7 i5 i12 i14 => by rw [g', if_neg i2, if_neg i7, if_neg i5, if_neg i12, r189, if_neg i14]
      refine ⟨h', ((F155.trans fb).trans (f189.mono (fun b q => Or.inl (by have q' : b = r ∨ b = r + 5 := q; first | exact rin5 q' | exact nin5 (by assumption) (by assumption) q' | omega)))).trans f', fun i i2 i3 i4 i5 i7 i12 i14 => by rw [RR i i2 i7 i5 i12 i14, rb i i3 i4 i12 i14, r155, if_neg i14], fun q => ?_, fun i i6 i9 => TT i (by omega) i9 (by omega) (by omega), fun i i2 => by rw [xp, p1, if_neg i2], fun i hi => ⟨by rw [xO]; exact (q1 i (by omega)).1, by rw [xP]; exact (q1 i (by omega)).2⟩, Or.inr ⟨rfl, H1, L1, k, 0, ?_, L01⟩⟩
      · have e3' : mI M155 r 3 = mI M r 3 := by rw [r155, if_neg (by decide)]
        rw [RR 3 (by decide) (by decide) (by decide) (by decide) (by decide), rb3 (by rw [e3']; exact q), e3']
      · refine g.popc ⟨by rw [g', if_pos rfl], by rw [g', if_neg (by decide), if_neg (by decide), if_neg (by decide), if_pos rfl], by rw [g', if_neg (by decide), if_pos rfl], by rw [g', if_neg (by decide), if_neg (by decide), if_neg (by decide), if_neg (by decide), r189, if_pos rfl]; omega, by rw [g', if_neg (by decide), if_neg (by decide), if_pos rfl]⟩ (fun j _ => by rw [TT 1 (by omega) (by omega) (by omega) (by omega)]) (fun j _ => by rw [TT 2 (by omega) (by omega) (by omega) (by omega)]) (fun j _ => by rw [TT 3 (by omega) (by omega) (by omega) (by omega)]) (fun j hj => by rw [X (r + 4) (by omega) (by omega), x4, if_neg (by omega)]) (fun j => ?_) (by rw [xp, p1, if_pos rfl]) L01 (fun j hj => by rw [xO]; exact (q1 j hj).1) H01 HL1 Hs1 (fun pc p0 pL => ?_) se1 han
        · rw [n' (r + 5) (by omega), t189]
          split
          · exact Or.inl rfl
          · exact tb j
        · rw [xO, xP]
          obtain ⟨c1, c2, c3⟩ := C1 pc p0 pL
          exact ⟨c1, fun q => (c2 q).imp (fun u => pdk (fun j _ => ⟨by rw [TT 1 (by omega) (by omega) (by omega) (by omega)], by rw [TT 3 (by omega) (by omega) (by omega) (by omega)]⟩) (Nat.le_refl _) u) (fun u => u), c3⟩
    have gi : gI M155 z r w T A B D N C n p O P K (k + 1) (skk M r k) M155 := ⟨h155, FI.refl, fun _ _ _ _ _ => rfl, ⟨by rw [r155, if_neg (by decide)]; exact g2, by rw [r155, if_pos rfl]⟩, fun _ => rfl, fun _ _ _ => rfl, fun j => by rw [t155 5 (by omega) (by omega) (by omega)]; exact gt j⟩
    refine ⟨fun y => absurd y (by omega), fun _ => ?_⟩
    rw [(pl h155).1.2, (pl h155).1.1, (pl h155).2.2.2, (pl h155).2.2.1]
    exact ⟨h155.2.1.1, (pl h155).2.1.2, by omega, fun _ => fin gi, fun _ => ⟨(pl h155).2.1.1, by omega, (gi.note (i32s (by omega) (by omega)) (h155.1 _ _).1).mono (fun M182 q => ⟨q.1.1, fin q⟩)⟩⟩
  · -- ','
    subst y5
    refine ⟨fun _ => ⟨fun y => absurd y (by omega), fun _ => ?_⟩, fun y => absurd (Or.inr (by omega)) y⟩
    refine s_ci286 (a := a) (Or.inr rfl) h155 (by rw [r155, if_neg (by decide)]; exact g1) (by omega) (fun M' h' f' g' n' => ?_)
    have TT : ∀ i, 1 ≤ i → i ≤ 9 → i ≠ 4 → mI M' (r + i) = mI M (r + i) := fun i i1 i9 i4 => by rw [n' (r + i) (by omega), t155 i i1 i9 i4]
    have xO : mI M' O = mI M1 O := by rw [n' O (by first | exact oO | exact off0 oO | exact off9 oO (by decide) | exact off4 oO | exact e1 | exact e3 | omega), o155 O (by first | exact oO | exact off0 oO | exact off9 oO (by decide) | exact off4 oO | exact e1 | exact e3 | omega)]
    have xP : mI M' P = mI M1 P := by rw [n' P (by first | exact oP | exact off0 oP | exact off9 oP (by decide) | exact off4 oP | exact e2 | exact fun q => e3 q.symm | omega), o155 P (by first | exact oP | exact off0 oP | exact off9 oP (by decide) | exact off4 oP | exact e2 | exact fun q => e3 q.symm | omega)]
    have xp : mI M' p = mI M1 p := by rw [n' p (by first | exact op | exact off0 op | exact off9 op (by decide) | exact off4 op | exact fun q => e1 q.symm | exact fun q => e2 q.symm | omega), o155 p (by first | exact op | exact off0 op | exact off9 op (by decide) | exact off4 op | exact fun q => e1 q.symm | exact fun q => e2 q.symm | omega)]
    have xr : ∀ i, mI M' r i = if i = 2 then (a : Int) + 1 else if i = 7 then 1 else if i = 14 then ((skk M r k : Nat) : Int) else mI M r i := fun i => by rw [g', r155]
    have x4' : ∀ j, mI M' (r + 4) j = if j = k then mm else mI M (r + 4) j := fun j => by rw [n' (r + 4) (by omega), x4]
    have cmm : cm (mI M (r + 1) k) mm = 1 := by unfold cm; rw [if_neg (by omega), if_pos ⟨ho, mo⟩]
    refine ⟨h', F155.trans f', fun i i2 i3 i4 i5 i7 i12 i14 => by rw [xr, if_neg i2, if_neg i7, if_neg i14], fun _ => by rw [xr, if_neg (by decide), if_neg (by decide), if_neg (by decide)], fun i i6 i9 => TT i (by omega) i9 (by omega), fun i i2 => by rw [xp, p1, if_neg i2], fun i hi => ⟨by rw [xO]; exact (q1 i (by omega)).1, by rw [xP]; exact (q1 i (by omega)).2⟩, Or.inr ⟨rfl, H1, L1, k + 1, 1, ?_, L01⟩⟩
    refine g.goes (o' := mI M (r + 1) k) (m' := mm) ⟨by rw [xr, if_pos rfl], by rw [xr, if_neg (by decide), if_neg (by decide), if_neg (by decide), g2]; omega, by rw [xr, if_neg (by decide), if_pos rfl], by rw [xr, if_neg (by decide), if_neg (by decide), if_pos rfl], by rw [xr, if_neg (by decide), if_neg (by decide), if_neg (by decide)]; exact gd⟩ (fun j => ?_) (fun j => by rw [TT 2 (by omega) (by omega) (by omega)]) (fun j _ => by rw [TT 3 (by omega) (by omega) (by omega)]) x4' (fun j => by rw [TT 5 (by omega) (by omega) (by omega)]; exact gt j) (by rw [xp, p1, if_pos rfl]) L01 (fun j hj => by rw [xO]; exact (q1 j hj).1) H01 (by rw [HL1, cmm]; omega) Hs1 (fun pc p0 pL => ?_) se1 han ⟨ck, ce, rfl, rfl⟩ ?_
    · rw [TT 1 (by omega) (by omega) (by omega)]
      by_cases y : j = k
      · rw [if_pos y, y]
      · rw [if_neg y]
    · rw [xO, xP]
      obtain ⟨c1, c2, c3⟩ := C1 pc p0 pL
      exact ⟨c1, fun q => (c2 q).imp (fun u => pdk (fun j _ => ⟨by rw [TT 1 (by omega) (by omega) (by omega)], by rw [TT 3 (by omega) (by omega) (by omega)]⟩) (by omega) u) (fun u => u), c3⟩
    · unfold enO
      rw [TT 1 (by omega) (by omega) (by omega), TT 2 (by omega) (by omega) (by omega), TT 3 (by omega) (by omega) (by omega), x4', if_pos rfl]
      exact ⟨en1, en2, by omega, fun _ => by omega, fun q => absurd q nj, en6, fun q => by rw [TT 1 (by omega) (by omega) (by omega)] at q; omega⟩
end RRI
end
section
/-! The class's reader of rules: closeInner. -/
section RRJ
variable {G : mG} {d z r w T A B D N C n p O P K k a s L L1 V F d0 c : Nat} {M0 M M' M1 M2 : mM} {H H1 : Nat → Nat} {ns : Nat → Int} {wt : Int}
theorem s_ciList {l5 : Int} (g : RG M r p O P n s V F ns d0 H L (k + 1) a 0) (h : RB M z r w T A B D N C n p O P K) (han : a < n) (ho : mI M (r + 1) k = 15 ∨ mI M (r + 1) k = 16) (h5 : l5 = 0 ∨ l5 = 1) : h_RR_closeInner_165 G d r k 1 l5 M (cliQ M z r w T A B D N C n p O P K s V F ns d0 L a) := by
  have rm := g.room
  have hwN := h.2.2.2.1.2.2.1
  have hN := h.2.2.2.1.1.2.2.2.2.2.2.1
  have hK := h.2.2.2.2.2.2
  obtain ⟨oO, oP, op, e1, e2, e3⟩ := h.off
  obtain ⟨b1, -, b3, -⟩ := sum_top M r k
  have ce : cee (mI M (r + 1) k) = 0 := by unfold cee; rw [if_neg (by omega)]
  have nj : ¬ jm (mI M (r + 1) k) := by unfold jm; omega
  rw [ce] at b3
  have u0 : uw 0 = 1 := rfl
  obtain ⟨⟨g1, g2, g3, g4⟩, -, ⟨-, gs⟩, -, -, -, ge, ⟨gH, gHs⟩, gC, gL, -⟩ := id g
  obtain ⟨-, en2, en3, en4, -, -⟩ := ge k (by omega)
  have mk2 := mk_and2 (m := mI M (r + 4) k) ⟨en3.1, en4 ho⟩
  obtain ⟨-, ⟨k0, ⟨q8, q9, -, q11, -⟩, ⟨kk1, kk2, -, kk4, -⟩, ⟨nn1, nn2, -, nn4, -⟩⟩, ⟨-, rp1⟩, -, hPK, -⟩ := id h
  refine k_RR_closeInner_165 h.1 ⟨by omega, by omega⟩ (i32s (by omega) (by omega)) (i32s (by omega) (by omega)) ⟨fun y => absurd y (by omega), fun _ => ?_⟩
  rw [q11, q8, q9, nn4, nn1, nn2, Int.toNat_natCast, rp1]
  refine ⟨k0, kk4, by omega, fun y => ?_, fun y => ⟨kk1, by omega, kk2, by omega, hPK.1, (s_Pr_add (n := L) (h.1 _ _).1 (h.1 _ _).1 h.1 hPK g4 (by omega)).mono (fun x M1 q => ?_)⟩⟩
  · have c0 : cm (mI M (r + 1) k) (mI M (r + 4) k) = 0 := by
      have := mk2.resolve_right (fun u => u.1 y)
      unfold cm
      rw [if_neg (by omega), if_neg (fun u => this.2 u.2)]
    rw [c0] at b1
    exact s_ci201 (H1 := H) (L1 := L) g h han ho ⟨h, FI.refl, fun _ _ _ => rfl, fun i => by
      by_cases v : i = 2
      · rw [if_pos v, v]; exact g4
      · rw [if_neg v], fun _ _ => ⟨rfl, rfl⟩, Nat.le_refl _, fun _ _ => rfl, by omega, gHs, gC, by omega⟩ h5
  · have c1 : cm (mI M (r + 1) k) (mI M (r + 4) k) = 1 := by
      have := mk2.resolve_left (fun u => y u.1)
      unfold cm
      rw [if_neg (by omega), if_pos ⟨ho, this.2⟩]
    rw [c1] at b1
    obtain ⟨ex, o1, f1, p1, q1, v1⟩ := q
    have f1' : FI (rdS r p O P) M M1 := f1.mono (fun b q => Or.inr q)
    have h1 := h.fi o1 f1'
    obtain ⟨H', hH'⟩ : ∃ H' : Nat → Nat, ∀ i, H' i = if i = L + 1 then 1 + bs M r k else H i := ⟨fun i => if i = L + 1 then 1 + bs M r k else H i, fun _ => rfl⟩
    have hHs : ∀ i, i ≤ L → H' i = H i := fun i hi => by rw [hH', if_neg (by omega)]
    have hHL : H' (L + 1) = 1 + bs M r k := by rw [hH', if_pos rfl]
    have hL0 := hHs L (Nat.le_refl _)
    refine ⟨⟨by omega, by omega⟩, o1, s_ci201 (H1 := H') (L1 := L + 1) g h han ho ⟨h1, f1', fun b y1 y2 => f1.2.2.2.2.2.2 b (fun q => by
      have q' : b = p ∨ b = O ∨ b = P := q
      first | exact off3 op oO oP (by assumption) (by assumption) q' | omega), fun i => by rw [p1]; rfl, fun i hi => ⟨by rw [q1, if_neg (by omega)], by rw [v1, if_neg (by omega)]⟩, by omega, hHs, hHL, by omega, gC.add gs hHs gHs q1 v1 (fun _ _ u => u) (Or.inr (Or.inr (Or.inr (Or.inr (Or.inr (Or.inr (Or.inl ⟨by omega, by omega, by omega⟩))))))) (fun u => absurd u nj), by omega⟩ h5⟩
theorem s_RR_closeInner {l1 : Int} (i1 : i32 l1) (g : RG M r p O P n s V F ns d0 H L (k + 1) a 0) (h : RB M z r w T A B D N C n p O P K) (han : a < n) (ho : mI M (r + 1) k = 37 ∨ mI M (r + 1) k = 40 ∨ mI M (r + 1) k = 41 ∨ mI M (r + 1) k = 15 ∨ mI M (r + 1) k = 16 ∨ mI M (r + 1) k = 33) : Ci G y_RR_closeInner (d + 1) [vr r, vi l1, vi k] M (cliQ M z r w T A B D N C n p O P K s V F ns d0 L a) := by
  have rm := g.room
  obtain ⟨-, ⟨k0, ⟨q8, -, -, q11, -⟩, ⟨kk1, -⟩, ⟨nn1, -⟩⟩, -⟩ := id h
  refine k_RR_closeInner h.1 i1 ⟨by omega, by omega⟩ ?_
  rw [q8, nn1, Int.toNat_natCast, q11]
  refine ⟨k0, kk1, by omega, fun v5 e5 => ⟨by omega, fun _ => by omega, fun v14 e14 v25 e25 => ⟨fun y => ⟨fun y5 => ?_, fun y5 => ?_⟩, fun _ => ⟨h, FI.refl, fun _ _ _ _ _ _ _ _ => rfl, fun _ => rfl, fun _ _ _ => rfl, fun _ _ => rfl, fun _ _ => ⟨rfl, rfl⟩, Or.inl ⟨rfl, rfl⟩⟩⟩⟩⟩
  · have n33 : mI M (r + 1) k ≠ 33 := fun u => by rw [if_pos u] at e5; omega
    by_cases u : mI M (r + 1) k = 15 ∨ mI M (r + 1) k = 16
    · rw [if_pos u] at e14
      rw [e14]
      exact s_ciList g h han u (by rw [e25]; split <;> omega)
    · rw [if_neg u] at e14
      rw [if_pos (Or.inl ⟨y5, Or.inl e14⟩)] at e25
      rw [e14, e25]
      exact s_ciOpen h g han (by omega)
  · have y33 : mI M (r + 1) k = 33 := Classical.byContradiction (fun u => y5 (by rw [e5, if_neg u]))
    have z14 : v14 = 0 := by rw [e14, if_neg (by omega)]
    have z25 : v25 = 1 := by
      rcases y with v | v
      · have : v25 = 0 ∨ v25 = 1 := by rw [e25]; split <;> omega
        omega
      · exact absurd v.1 y5
    rw [z14, z25]
    exact s_ciElse h g han y33
end RRJ
end
section
/-! The class's reader of rules: takeOperator. -/
section RRK
variable {G : mG} {d z r w T A B D N C n p O P K k a s L L1 V F d0 c : Nat} {M0 M M' M1 M2 : mM} {H H1 : Nat → Nat} {ns : Nat → Int} {wt : Int}
/-- what reading a rule may change -/
def rrF (M : mM) (r p O P s : Nat) (M' : mM) : Prop := FI (rdS r p O P) M M' ∧ (∀ i, i ≠ 2 → i ≠ 3 → i ≠ 4 → i ≠ 5 → i ≠ 7 → i ≠ 12 → i ≠ 14 → mI M' r i = mI M r i) ∧ (mI M r 3 ≠ 0 → mI M' r 3 = mI M r 3) ∧ (∀ i, 6 ≤ i → i ≤ 9 → mI M' (r + i) = mI M (r + i)) ∧ (∀ i, i ≠ 2 → mI M' p i = mI M p i) ∧ (∀ i, i < s → mI M' O i = mI M O i ∧ mI M' P i = mI M P i)
theorem rrF.refl : rrF M r p O P s M := ⟨FI.refl, fun _ _ _ _ _ _ _ _ => rfl, fun _ => rfl, fun _ _ _ => rfl, fun _ _ => rfl, fun _ _ => ⟨rfl, rfl⟩⟩
theorem rrF.trans (f : rrF M0 r p O P s M) (g : rrF M r p O P s M') : rrF M0 r p O P s M' := by
  obtain ⟨a1, a2, a3, a4, a5, a6⟩ := f
  obtain ⟨b1, b2, b3, b4, b5, b6⟩ := g
  refine ⟨a1.trans b1, fun i i2 i3 i4 i5 i7 i12 i14 => by rw [b2 i i2 i3 i4 i5 i7 i12 i14, a2 i i2 i3 i4 i5 i7 i12 i14], fun q => ?_, fun i i6 i9 => by rw [b4 i i6 i9, a4 i i6 i9], fun i i2 => by rw [b5 i i2, a5 i i2], fun i hi => ⟨by rw [(b6 i hi).1, (a6 i hi).1], by rw [(b6 i hi).2, (a6 i hi).2]⟩⟩
  have h3 := a3 q
  rw [b3 (by rw [h3]; exact q), h3]
/-- what a step comes to: 0 it goes on, 1 the rule is over, 2 a word is refused -/
def rtQ (M0 : mM) (z r w T A B D N C n p O P K s V F : Nat) (ns : Nat → Int) (d0 : Nat) (a : Nat) (x : Int) (M' : mM) : Prop := RB M' z r w T A B D N C n p O P K ∧ rrF M0 r p O P s M' ∧ (x = 0 ∨ x = 1 ∨ x = 2) ∧ ∃ H' L' k' wt' a', RG M' r p O P n s V F ns d0 H' L' k' a' wt' ∧ a ≤ a' ∧ (x = 1 → k' = 0 ∧ wt' = 0)
theorem RG.ref (g : RG M r p O P n s V F ns d0 H L k a wt) : ∃ a' L' : Nat, mI M r 2 = a' ∧ mI M p 2 = L' ∧ a' ≤ n ∧ s ≤ L' ∧ L' ≤ a' := by
  obtain ⟨⟨g1, -, -, g4⟩, -, ⟨g5, g6⟩, -, -, -, -, -, -, g7, -⟩ := g
  exact ⟨a, L, g1, g4, g5, g6, by omega⟩
theorem sg_st {x : Int} (g : RG M r p O P n s V F ns d0 H L k a 0) (f : rrF M0 r p O P s M) (q : sgQ M z r w T A B D N C n p O P K s V F ns d0 H L k a x M') : rtQ M0 z r w T A B D N C n p O P K s V F ns d0 a x M' := by
  obtain ⟨q1, q2, q3, q4, q5, q6, q7⟩ := q
  have gs := g.2.2.1.2
  refine ⟨q1, f.trans ⟨q2, fun i i2 i3 i4 i5 i7 i12 i14 => q3 i i2 i5 i7 i12 i14, fun _ => q3 3 (by decide) (by decide) (by decide) (by decide) (by decide), q4, q5, fun i hi => q6 i (by omega)⟩, ?_⟩
  rcases q7 with ⟨e, e2⟩ | ⟨e, H', L', g', -⟩
  · rw [e2]
    exact ⟨Or.inr (Or.inr e), H, L, k, 0, a, g, by omega, fun u => absurd u (by omega)⟩
  · exact ⟨Or.inl e, H', L', k + 1, 1, a + 1, g', by omega, fun u => absurd u (by omega)⟩
theorem s_RR_closeInner0 (g : RG M r p O P n s V F ns d0 H L (k + 1) a 0) (h : RB M z r w T A B D N C n p O P K) : Ci G y_RR_closeInner (d + 1) [vr r, vi 0, vi k] M (fun x M' => x = 2 ∧ M' = M) := by
  have rm := g.room
  obtain ⟨-, ⟨k0, ⟨q8, -, -, q11, -⟩, ⟨kk1, -⟩, ⟨nn1, -⟩⟩, -⟩ := id h
  refine k_RR_closeInner h.1 (i32s (by omega) (by omega)) ⟨by omega, by omega⟩ ?_
  rw [q8, nn1, Int.toNat_natCast, q11]
  refine ⟨k0, kk1, by omega, fun v5 e5 => ⟨by omega, fun _ => by omega, fun v14 e14 v25 e25 => ⟨fun y => ?_, fun _ => ⟨rfl, rfl⟩⟩⟩⟩
  exfalso
  have z25 : v25 = 0 := by
    rw [e25]
    by_cases u : v5 = 0
    · rw [if_pos (Or.inl ⟨u, Or.inr (by omega)⟩)]
    · rw [if_pos (Or.inr ⟨u, by omega, Or.inr (by omega)⟩)]
  rcases y with u | u
  · exact u z25
  · exact absurd u.2 (by omega)
theorem g_rrF {M9 : mM} (q : gQ M z r w T A B D N C n p O P K s V F ns d0 H L k a M9) : rrF M r p O P s M9 := by
  obtain ⟨-, q2, q3, q4, q5, q6, q7, -⟩ := q
  exact ⟨q2, fun i i2 i3 i4 i5 i7 i12 i14 => q3 i i3 i4 i5 i12 i14, q4, q5, q6, q7⟩
theorem s_to112 {o : Int} (io : i32 o) (e0 : a = n → o = 0) : ∀ (k : Nat) (M : mM) (H : Nat → Nat) (L : Nat), RB M z r w T A B D N C n p O P K → rrF M0 r p O P s M → RG M r p O P n s V F ns d0 H L k a 0 → (0 < k → lvl (mI M (r + 1) (k - 1)) = 0) → h_RR_takeOperator_112 G (d + 1) r o M (rtQ M0 z r w T A B D N C n p O P K s V F ns d0 a)
  | 0, M, H, L, h, f, g, _ => by
    have g2 := g.1.2.1
    refine k_RR_takeOperator_112 h.1 io ⟨h.2.1.1, fun y => absurd y (by omega), fun _ => ⟨fun _ => ⟨h, f, Or.inr (Or.inl rfl), H, L, 0, 0, a, g, by omega, fun _ => ⟨rfl, rfl⟩⟩, fun y => absurd y (by omega)⟩, fun y => absurd (Or.inl (by omega)) y⟩
  | k + 1, M, H, L, h, f, g, ht => by
    have g2 := g.1.2.1
    have rm := g.room
    have en := g.2.2.2.2.2.2.1 k (by omega)
    obtain ⟨-, ⟨k0, ⟨q8, -⟩, ⟨kk1, -⟩, ⟨nn1, -⟩⟩, -⟩ := id h
    have l0 := ht (by omega)
    rw [show k + 1 - 1 = k by omega] at l0
    refine k_RR_takeOperator_112 h.1 io ?_
    rw [g2, q8, nn1, show (((k + 1 : Nat) : Int) - 1).toNat = k by omega]
    refine ⟨k0, fun _ => ⟨kk1, by omega⟩, fun y => ⟨fun y0 => absurd y0 (by omega), fun _ => ?_⟩, fun y => ⟨⟨by omega, by omega⟩, fun M92 e92 => ?_⟩⟩
    · have n42 : mI M (r + 1) k ≠ 42 := by
        rcases y with u | u
        · exact absurd u (by omega)
        · exact u
      rw [show ((k + 1 : Nat) : Int) - 1 = (k : Int) by omega]
      by_cases ya : a < n
      · refine (s_RR_closeInner io g h ya ?_).mono (fun x M' q => ?_)
        · have op := en.1
          clear ht en y e0
          unfold opn at op
          unfold lvl at l0
          rcases op with u | u | u | u | u | u | u | u
          · omega
          · omega
          · exfalso
            by_cases v1 : 19 ≤ mI M (r + 1) k ∧ mI M (r + 1) k ≤ 24
            · rw [if_pos v1] at l0; omega
            · rw [if_neg v1] at l0
              by_cases v2 : mI M (r + 1) k = 25 ∨ mI M (r + 1) k = 26
              · rw [if_pos v2] at l0; omega
              · rw [if_neg v2] at l0
                by_cases v3 : 27 ≤ mI M (r + 1) k ∧ mI M (r + 1) k ≤ 29
                · rw [if_pos v3] at l0; omega
                · rw [if_neg v3] at l0
                  by_cases v4 : mI M (r + 1) k = 30
                  · rw [if_pos v4] at l0; omega
                  · rw [if_neg v4, if_pos (by omega)] at l0; omega
          · omega
          · omega
          · omega
          · omega
          · omega
        · obtain ⟨q1, q2, q3, q4, q5, q6, q7, q8'⟩ := q
          refine ⟨?_, q1.1, q1, f.trans ⟨q2, q3, q4, q5, q6, q7⟩, ?_⟩
          · rcases q8' with ⟨e, -⟩ | ⟨e, -⟩ <;> rw [e] <;> exact i32s (by omega) (by omega)
          · rcases q8' with ⟨e, e2⟩ | ⟨e, H', L', k', wt', g', -⟩
            · rw [e2]; exact ⟨Or.inr (Or.inr e), H, L, k + 1, 0, a, g, by omega, fun u => absurd u (by omega)⟩
            · exact ⟨Or.inl e, H', L', k', wt', a + 1, g', by omega, fun u => absurd u (by omega)⟩
      · have eo := e0 (by have := g.2.2.1.1; omega)
        rw [eo]
        refine (s_RR_closeInner0 g h).mono (fun x M' q => ?_)
        obtain ⟨e, e2⟩ := q
        rw [e, e2]
        exact ⟨i32s (by omega) (by omega), h.1, h, f, Or.inr (Or.inr rfl), H, L, k + 1, 0, a, g, by omega, fun u => absurd u (by omega)⟩
    · have y42 : mI M (r + 1) k = 42 := Classical.byContradiction (fun u => y (Or.inr u))
      refine (s_RR_group g h (by rw [y42]; exact Or.inr (Or.inr (Or.inr rfl))) e92).mono (fun M94 q => ?_)
      have fq := f.trans (g_rrF q)
      obtain ⟨q1, -, -, -, -, -, -, q8', H', L', g', -⟩ := q
      refine ⟨q1.1, s_to112 io e0 k M94 H' L' q1 fq g' (fun hk => ?_)⟩
      rw [q8' (k - 1) (by omega)]
      exact en.2.2.2.2.2.2 (Or.inr y42) (k - 1) (by omega)
end RRK
end
section
/-! The class's reader of rules: takeOperator, the whole. -/
section RRL
variable {G : mG} {d z r w T A B D N C n p O P K k a s L L1 V F d0 c : Nat} {M0 M M' M1 M2 : mM} {H H1 : Nat → Nat} {ns : Nat → Int} {wt : Int}
theorem lvl_pos {o : Int} (h : 0 < lvl o) : (19 ≤ o ∧ o ≤ 31) ∨ o = 41 := by
  unfold lvl at h
  split at h
  · omega
  split at h
  · omega
  split at h
  · omega
  split at h
  · omega
  split at h
  · omega
  split at h
  · omega
  · exact absurd h (by omega)
/-- the level from which on all is grouped -/
def tgh (o : Int) : Int := if lvl o = 4 then lvl o + 1 else if lvl o < 1 then 1 else lvl o
theorem s_to36 {o l1 : Int} (io : i32 o) (i1 : i32 l1) (e0 : a = n → o = 0) (o39 : o ≤ 39) : ∀ (k : Nat) (M : mM) (H : Nat → Nat) (L : Nat), RB M z r w T A B D N C n p O P K → rrF M0 r p O P s M → RG M r p O P n s V F ns d0 H L k a 0 → h_RR_takeOperator_36 G (d + 2) r l1 o (lvl o) (tgh o) M (rtQ M0 z r w T A B D N C n p O P K s V F ns d0 a) := by
  have lb := lvl_b o
  have tb : 1 ≤ tgh o ∧ tgh o ≤ 6 ∧ (lvl o ≤ 0 → tgh o = 1) ∧ (0 < lvl o → tgh o = if lvl o = 4 then 5 else lvl o) := by
    unfold tgh
    by_cases u : lvl o = 4
    · rw [if_pos u, if_pos u]; omega
    · rw [if_neg u, if_neg u]
      by_cases v : lvl o < 1
      · rw [if_pos v]; omega
      · rw [if_neg v]; omega
  have sgn : 0 < lvl o → 19 ≤ o ∧ o ≤ 31 := fun u => by
    have := lvl_pos u
    omega
  have i3 : i32 (lvl o) := i32s (by omega) (by omega)
  have i4 : i32 (tgh o) := i32s (by omega) (by omega)
  have fin : ∀ {k : Nat} {M : mM} {H : Nat → Nat} {L : Nat} {x : Int} {M' : mM}, rrF M0 r p O P s M → RG M r p O P n s V F ns d0 H L k a 0 → sgQ M z r w T A B D N C n p O P K s V F ns d0 H L k a x M' → i32 x ∧ mOk M' ∧ rtQ M0 z r w T A B D N C n p O P K s V F ns d0 a x M' := fun {k M H L x M'} f g q => by
    have q' := sg_st g f q
    refine ⟨?_, q'.1.1, q'⟩
    rcases q.2.2.2.2.2.2 with ⟨e, -⟩ | ⟨e, -⟩ <;> rw [e] <;> exact i32s (by omega) (by omega)
  intro k
  induction k with
  | zero =>
    intro M H L h f g
    have g2 := g.1.2.1
    have gn := g.2.2.1.1
    refine k_RR_takeOperator_36 h.1 i1 io i3 i4 ⟨h.2.1.1, fun _ => ⟨fun y => ⟨fun y1 => ?_, fun y1 => ?_⟩, fun y => ?_⟩, fun y => absurd y (by omega)⟩
    · refine (s_RR_takeAsk h g (by
        have : a ≠ n := fun u => by have := e0 u; omega
        omega) (fun q => absurd q (by omega))).mono (fun x M' q => fin f g q)
    · exact s_to112 io e0 0 M H L h f g (fun q => absurd q (by omega))
    · refine (s_RR_takeSign h g (sgn (by omega)) (by
        have : a ≠ n := fun u => by have := e0 u; have := sgn (by omega); omega
        omega) (fun q => absurd q (by omega))).mono (fun x M' q => fin f g q)
  | succ k ih =>
    intro M H L h f g
    have g2 := g.1.2.1
    have gn := g.2.2.1.1
    have rm := g.room
    have en := (g.2.2.2.2.2.2.1 k (by omega)).1
    obtain ⟨-, ⟨k0, ⟨q8, -⟩, ⟨kk1, -⟩, ⟨nn1, -⟩⟩, -⟩ := id h
    refine k_RR_takeOperator_36 h.1 i1 io i3 i4 ?_
    rw [g2, q8, nn1, show (((k + 1 : Nat) : Int) - 1).toNat = k by omega]
    refine ⟨k0, fun y => absurd y (by omega), fun _ => ⟨kk1, by omega, (s_RR_level (h.1 _ _).1 h.1).mono (fun x M39 q => ?_)⟩⟩
    obtain ⟨e39, ex⟩ := q
    subst e39
    have bx := lvl_b (mI M39 (r + 1) k)
    rw [g2]
    refine ⟨by rw [ex]; exact i32s (by omega) (by omega), h.1, fun y => ⟨fun y3 => ⟨fun _ => k0, fun y1 => ⟨k0, ?_⟩, fun y1 => ?_⟩, fun y3 => ⟨k0, ?_⟩⟩, fun y => ⟨k0, ⟨by omega, by omega⟩, fun M72 e72 => ?_⟩⟩
    · refine (s_RR_takeAsk h g (by
        have : a ≠ n := fun u => by have := e0 u; omega
        omega) (fun _ => by rw [show k + 1 - 1 = k by omega]; omega)).mono (fun x M' q => fin f g q)
    · exact s_to112 io e0 (k + 1) M39 H L h f g (fun _ => by rw [show k + 1 - 1 = k by omega]; omega)
    · refine (s_RR_takeSign h g (sgn (by omega)) (by
        have : a ≠ n := fun u => by have := e0 u; have := sgn (by omega); omega
        omega) (fun _ => by rw [show k + 1 - 1 = k by omega]; have := tb.2.2.2 (by omega); omega)).mono (fun x M' q => fin f g q)
    · have gp : grpO (mI M39 (r + 1) k) := by
        rcases lvl_pos (o := mI M39 (r + 1) k) (by omega) with u | u
        · exact Or.inl u
        · exact Or.inr (Or.inr (Or.inl u))
      refine (s_RR_group g h gp e72).mono (fun M74 q => ?_)
      have fq := f.trans (g_rrF q)
      obtain ⟨q1, -, -, -, -, -, -, -, H', L', g', -⟩ := q
      exact ⟨q1.1, ih M74 H' L' q1 fq g'⟩
theorem s_RR_takeOperator {l1 : Int} (i1 : i32 l1) (h : RB M z r w T A B D N C n p O P K) (g : RG M r p O P n s V F ns d0 H L k a 0) : Ci G y_RR_takeOperator (d + 3) [vr r, vi l1] M (rtQ M z r w T A B D N C n p O P K s V F ns d0 a) := by
  have g1 := g.1.1
  have gn := g.2.2.1.1
  obtain ⟨-, ⟨k0, -⟩, ⟨r0, -⟩, hW, -⟩ := id h
  obtain ⟨⟨w1, ⟨p0, p3, p4, p5⟩, -, ⟨k3, k4, k5⟩, ⟨c3, c4, c5⟩, w6, w7, w8, -⟩, e2, hnN, hw, hA, hB⟩ := id hW
  refine k_RR_takeOperator h.1 i1 ?_
  rw [r0, p3, g1, c3, Int.toNat_natCast]
  refine ⟨k0, w1, k3, by omega, (s_RR_level (h.1 _ _).1 h.1).mono (fun x M5 q => ?_)⟩
  obtain ⟨e5, ex⟩ := q
  subst e5
  subst ex
  have lb := lvl_b (mI M5 A a)
  refine ⟨i32s (by omega) (by omega), h.1, fun v9 e9 => ?_⟩
  subst e9
  refine s_to36 (h.1 _ _).1 i1 (fun u => by rw [u]; exact hA) ?_ k M5 H L h rrF.refl g
  by_cases u : a = n
  · rw [u, hA]; omega
  · exact (hw a (by omega)).1.2
end RRL
end
section
/-! The class's reader of rules: the names that it knows, and operands. -/
section RRM
variable {G : mG} {d z r w T A B D N C n p O P K k a a' s L L1 V F d0 c : Nat} {M0 M M' M1 M2 : mM} {H H1 : Nat → Nat} {ns : Nat → Int} {wt : Int}
/-- the c names that are known: words, sorts, numbers, kinds -/
def NK (M : mM) (r A n V F : Nat) (ns : Nat → Int) (c : Nat) : Prop := mI M r 19 = c ∧ c ≤ 72 ∧ ∀ i, i < c → (∃ v : Nat, mI M (r + 6) i = v ∧ v < n ∧ mI M A v = 2) ∧ ((mI M (r + 7) i = 5 ∧ 0 ≤ mI M (r + 8) i ∧ (mI M r 6 = 0 → mI M (r + 8) i < V)) ∨ (mI M (r + 7) i = 4 ∧ 0 ≤ mI M (r + 8) i ∧ mI M (r + 8) i < F ∧ ns (mI M (r + 8) i).toNat = 4) ∨ (mI M (r + 7) i = 7 ∧ 0 ≤ mI M (r + 8) i ∧ (mI M r 6 = 0 → mI M (r + 8) i < F ∧ ns (mI M (r + 8) i).toNat = 7))) ∧ (mI M (r + 9) i = 0 ∨ mI M (r + 9) i = 1)
/-- all names that are known -/
def TN (M : mM) (r A n V F : Nat) (ns : Nat → Int) (c : Nat) : Prop := mI M r 19 = c ∧ c ≤ 72 ∧ ∀ i, i < c → (∃ v : Nat, mI M (r + 6) i = v ∧ v < n ∧ mI M A v = 2) ∧ ((mI M (r + 7) i = 5 ∧ 0 ≤ mI M (r + 8) i ∧ mI M (r + 8) i < V) ∨ ((mI M (r + 7) i = 4 ∨ mI M (r + 7) i = 7) ∧ 0 ≤ mI M (r + 8) i ∧ mI M (r + 8) i < F ∧ ns (mI M (r + 8) i).toNat = mI M (r + 7) i)) ∧ (mI M (r + 9) i = 0 ∨ mI M (r + 9) i = 1)
/-- where only consts may stand -/
def nsc (ns : Nat → Int) : Nat → Int := fun x => if ns x = 4 then 4 else 0
theorem TN.nk (h : TN M r A n V F ns c) : NK M r A n V F ns c := by
  refine ⟨h.1, h.2.1, fun i hi => ?_⟩
  obtain ⟨h1, h2, h3⟩ := h.2.2 i hi
  refine ⟨h1, ?_, h3⟩
  rcases h2 with ⟨u1, u2, u3⟩ | ⟨u1, u2, u3, u4⟩
  · exact Or.inl ⟨u1, u2, fun _ => u3⟩
  · rcases u1 with e | e
    · exact Or.inr (Or.inl ⟨e, u2, u3, by rw [u4]; exact e⟩)
    · exact Or.inr (Or.inr ⟨e, u2, fun _ => ⟨u3, by rw [u4]; exact e⟩⟩)
theorem TN.nkc (h : TN M r A n V F ns c) (h6 : mI M r 6 ≠ 0) : NK M r A n 0 F (nsc ns) c := by
  refine ⟨h.1, h.2.1, fun i hi => ?_⟩
  obtain ⟨h1, h2, h3⟩ := h.2.2 i hi
  refine ⟨h1, ?_, h3⟩
  rcases h2 with ⟨u1, u2, u3⟩ | ⟨u1, u2, u3, u4⟩
  · exact Or.inl ⟨u1, u2, fun q => absurd q h6⟩
  · rcases u1 with e | e
    · refine Or.inr (Or.inl ⟨e, u2, u3, ?_⟩)
      unfold nsc
      rw [if_pos (by rw [u4]; exact e)]
    · exact Or.inr (Or.inr ⟨e, u2, fun q => absurd q h6⟩)
theorem RB.word (h : RB M z r w T A B D N C n p O P K) (f : FI (rdS r p O P) M M') : mI M' A = mI M A ∧ mI M' B = mI M B ∧ mI M' D = mI M D := by
  have hs := h.2.2.2.2.2.1.2.2
  have no : ∀ x, (x = w ∨ x = T ∨ x = A ∨ x = B ∨ x = D) → ¬ rdS r p O P x := fun x hx q => by
    have q' : (r ≤ x ∧ x ≤ r + 9) ∨ x = p ∨ x = O ∨ x = P := q
    have := hs x hx
    omega
  exact ⟨f.2.2.2.2.2.2 A (no A (by omega)), f.2.2.2.2.2.2 B (no B (by omega)), f.2.2.2.2.2.2 D (no D (by omega))⟩
theorem NK.rr (nk : NK M r A n V F ns c) (h : RB M z r w T A B D N C n p O P K) (f : rrF M r p O P s M') : NK M' r A n V F ns c := by
  have hA := (h.word f.1).1
  obtain ⟨-, f2, -, f4, -⟩ := f
  unfold NK at nk ⊢
  rw [hA, f2 19 (by decide) (by decide) (by decide) (by decide) (by decide) (by decide) (by decide), f2 6 (by decide) (by decide) (by decide) (by decide) (by decide) (by decide) (by decide), f4 6 (by omega) (by omega), f4 7 (by omega) (by omega), f4 8 (by omega) (by omega), f4 9 (by omega) (by omega)]
  exact nk
theorem RG.cg (g : RG M r p O P n s V F ns d0 H L k a wt) (h2 : mI M' r 2 = a') (haa : a ≤ a') (han : a' ≤ n) (h12 : mI M' r 12 = mI M r 12) (h7 : mI M' r 7 = mI M r 7) (h14 : mI M' r 14 = mI M r 14) (h5 : mI M' r 5 = mI M r 5) (t : ∀ i, 1 ≤ i → i ≤ 5 → mI M' (r + i) = mI M (r + i)) (tp : mI M' p 2 = mI M p 2) (tO : mI M' O = mI M O) (tP : mI M' P = mI M P) : RG M' r p O P n s V F ns d0 H L k a' wt := by
  obtain ⟨⟨g1, g2, g3, g4⟩, gw, ⟨ga, gs⟩, gc, ⟨gd, gd4⟩, gr, ge, gH, gC, gL, gt⟩ := g
  have l1 : ∀ j, mI M' (r + 1) j = mI M (r + 1) j := fun j => by rw [t 1 (by omega) (by omega)]
  have l2 : ∀ j, mI M' (r + 2) j = mI M (r + 2) j := fun j => by rw [t 2 (by omega) (by omega)]
  have l3 : ∀ j, mI M' (r + 3) j = mI M (r + 3) j := fun j => by rw [t 3 (by omega) (by omega)]
  have l4 : ∀ j, mI M' (r + 4) j = mI M (r + 4) j := fun j => by rw [t 4 (by omega) (by omega)]
  have sm := fun i hi => sums_cg (M := M) (M' := M') (r := r) (k := k) (fun j _ => l1 j) (fun j _ => l4 j) i hi
  obtain ⟨s1, s2, s3, s4⟩ := sm k (Nat.le_refl _)
  refine ⟨⟨h2, by rw [h12]; exact g2, by rw [h7]; exact g3, by rw [tp]; exact g4⟩, gw, ⟨han, gs⟩, by rw [h14, s2]; exact gc, ⟨by rw [h5, s4]; exact gd, by rw [s4]; exact gd4⟩, fun i hi => by rw [(sm (i + 1) (by omega)).2.2.2, l1]; exact gr i hi, fun i hi => (ge i hi).cg (fun j _ => l1 j) (l2 i) (l3 i) (fun j _ => l4 j) (Nat.le_refl _) (fun j _ => by rw [tO]) (fun _ _ => rfl), by rw [s1]; exact gH, ?_, by rw [s3]; omega, fun j => by rw [t 5 (by omega) (by omega)]; exact gt j⟩
  intro pc h0 h1
  rw [tO, tP]
  obtain ⟨a1, a2, a3⟩ := gC pc h0 h1
  exact ⟨a1, fun q => (a2 q).imp (fun u => pdg_cg u (Nat.le_refl _) (fun j _ => l1 j) (fun j _ => l3 j)) (fun u => u), a3⟩
theorem s_RR_find {v : Nat} (h : RB M z r w T A B D N C n p O P K) (nk : NK M r A n V F ns c) (hv : v < n) (h2 : mI M A v = 2) : Ci G y_RR_find (d + 1) [vr r, vi v] M (fun x M' => M' = M ∧ (x = -1 ∨ ∃ i : Nat, x = i ∧ i < c)) := by
  obtain ⟨-, ⟨k0, ⟨-, -, -, -, -, q15, -⟩, ⟨-, -, -, -, -, kk6, -⟩, ⟨-, -, -, -, -, nn6, -⟩⟩, ⟨r0, -⟩, hW, -⟩ := id h
  obtain ⟨hWA, e2, hnN, hw, hA, hB⟩ := id hW
  obtain ⟨w1, ⟨p0, p3, p4, p5⟩, -, ⟨k3, k4, k5⟩, ⟨c3, c4, c5⟩, w6, w7, w8, -⟩ := id hWA
  obtain ⟨n1, n2, n3⟩ := nk
  obtain ⟨-, ⟨sv0, -⟩, am, -⟩ := hw v hv
  have am2 := am h2
  have dv := (h.1 D v).1
  refine k_RR_find h.1 (i32s (by omega) (by omega)) ?_
  rw [r0, p5, c5, Int.toNat_natCast]
  refine ⟨k0, w1, k5, by omega, ?_⟩
  suffices HH : ∀ (t i : Nat), c ≤ i + t → i ≤ c → h_RR_find_12 G d r v (mI M D v) i M (fun x M' => M' = M ∧ (x = -1 ∨ ∃ i : Nat, x = i ∧ i < c)) from HH c 0 (by omega) (by omega)
  intro t
  induction t with
  | zero =>
    intro i hi hc
    exact k_RR_find_12 h.1 (i32s (by omega) (by omega)) dv (i32s (by omega) (by omega)) ⟨k0, fun _ => ⟨rfl, Or.inl rfl⟩, fun y => absurd y (by omega)⟩
  | succ t ih =>
    intro i hi hc
    refine k_RR_find_12 h.1 (i32s (by omega) (by omega)) dv (i32s (by omega) (by omega)) ⟨k0, fun _ => ⟨rfl, Or.inl rfl⟩, fun y => ?_⟩
    have hic : i < c := by omega
    obtain ⟨⟨u, eu, un, u2⟩, -⟩ := n3 i hic
    obtain ⟨-, ⟨su0, -⟩, amu, -⟩ := hw u un
    have amu2 := amu u2
    rw [q15, nn6, r0, p5, c5, p4, c4, Int.toNat_natCast, eu, Int.toNat_natCast, Int.toNat_natCast]
    refine ⟨kk6, by omega, w1, k5, by omega, fun e => ⟨k4, by omega, by omega, ?_⟩, fun _ => ih (i + 1) (by omega) (by omega)⟩
    obtain ⟨su, esu⟩ : ∃ x : Nat, mI M B u = x := ⟨(mI M B u).toNat, by omega⟩
    obtain ⟨sv, esv⟩ : ∃ x : Nat, mI M B v = x := ⟨(mI M B v).toNat, by omega⟩
    obtain ⟨sz, esz⟩ : ∃ x : Nat, mI M D v = x := ⟨(mI M D v).toNat, by omega⟩
    rw [esu, esv, esz]
    refine (s_Wo_same h.1 hWA (by omega) (by omega)).mono (fun x M' q => ?_)
    obtain ⟨e', hx⟩ := q
    rw [e']
    rw [← esz]
    exact ⟨i32s (by omega) (by omega), h.1, fun _ => ih (i + 1) (by omega) (by omega), fun _ => ⟨rfl, Or.inr ⟨i, rfl, hic⟩⟩⟩
theorem v_rt {y : Int} (g : RG M r p O P n s V F ns d0 H L k a 1) (f : rrF M0 r p O P s M) (q : y = 0 ∧ RB M' z r w T A B D N C n p O P K ∧ FI (rdS r p O P) M M' ∧ (∀ i, i ≠ 2 → i ≠ 7 → i ≠ 14 → mI M' r i = mI M r i) ∧ (∀ i, 6 ≤ i → i ≤ 9 → mI M' (r + i) = mI M (r + i)) ∧ (∀ i, i ≠ 2 → mI M' p i = mI M p i) ∧ (∀ i, i ≠ L → mI M' O i = mI M O i ∧ mI M' P i = mI M P i) ∧ ∃ H', RG M' r p O P n s V F ns d0 H' (L + 1) k (a + 1) 0 ∧ ∀ i, i ≤ L → H' i = H i) : i32 y ∧ mOk M' ∧ rtQ M0 z r w T A B D N C n p O P K s V F ns d0 a y M' := by
  obtain ⟨e, q1, q2, q3, q4, q5, q6, H', g', -⟩ := q
  have gs := g.2.2.1.2
  refine ⟨by rw [e]; exact i32s (by omega) (by omega), q1.1, q1, f.trans ⟨q2, fun i i2 _ _ _ i7 _ i14 => q3 i i2 i7 i14, fun _ => q3 3 (by decide) (by decide) (by decide), q4, q5, fun i hi => q6 i (by omega)⟩, Or.inl e, H', L + 1, k, 0, a + 1, g', by omega, fun u => absurd u (by omega)⟩
theorem l_rt {x : Int} (haa : a ≤ a') (g : RG M r p O P n s V F ns d0 H L k a' 1) (f : rrF M0 r p O P s M) (q : lvQ M z r w T A B D N C n p O P K s V F ns d0 H L k a' x M') : i32 x ∧ mOk M' ∧ rtQ M0 z r w T A B D N C n p O P K s V F ns d0 a x M' := by
  obtain ⟨q1, q2, q3, q4, ⟨q5, q6, q7⟩, q8⟩ := q
  refine ⟨?_, q1.1, q1, f.trans ⟨q2, fun i i2 _ _ i5 i7 i12 _ => q3 i i2 i5 i7 i12, fun _ => q3 3 (by decide) (by decide) (by decide) (by decide), fun i i6 i9 => q4 i (by omega) i9, fun i _ => by rw [q5], fun i _ => ⟨by rw [q6], by rw [q7]⟩⟩, ?_⟩
  · rcases q8 with ⟨e, -⟩ | ⟨e, -⟩ <;> rw [e] <;> exact i32s (by omega) (by omega)
  · rcases q8 with ⟨e, e2⟩ | ⟨e, g'⟩
    · rw [e2]; exact ⟨Or.inr (Or.inr e), H, L, k, 1, a', g, by omega, fun u => absurd u (by omega)⟩
    · exact ⟨Or.inl e, H, L, k + 1, 1, a' + 1, g', by omega, fun u => absurd u (by omega)⟩
end RRM
end
section
/-! The class's reader of rules: takeOperand. -/
section RRN
variable {G : mG} {d z r w T A B D N C n p O P K k a a' s L L1 V F d0 c : Nat} {M0 M M' M1 M2 : mM} {H H1 : Nat → Nat} {ns : Nat → Int} {wt : Int}
theorem s_RR_takeOperand (h : RB M z r w T A B D N C n p O P K) (g : RG M r p O P n s V F ns d0 H L k a 1) (nk : NK M r A n V F ns c) : Ci G y_RR_takeOperand (d + 3) [vr r] M (rtQ M z r w T A B D N C n p O P K s V F ns d0 a) := by
  have g1 := g.1.1
  have gn := g.2.2.1.1
  have rm := g.room
  obtain ⟨-, ⟨k0, ⟨-, -, -, -, -, q15, q16, q17, q18⟩, ⟨-, -, -, -, -, kk6, kk7, kk8, kk9⟩, ⟨-, -, -, -, -, nn6, nn7, nn8, nn9⟩⟩, ⟨r0, -⟩, hW, -⟩ := id h
  obtain ⟨⟨w1, ⟨p0, p3, p4, p5⟩, -, ⟨k3, k4, k5⟩, ⟨c3, c4, c5⟩, w6, w7, w8, -⟩, e2, hnN, hw, hA, hB⟩ := id hW
  have nend : ∀ {x : Int}, mI M A a = x → x ≠ 0 → a < n := fun {x} e e0 => by
    have : a ≠ n := fun u => by rw [u, hA] at e; omega
    omega
  refine k_RR_takeOperand h.1 ?_
  rw [r0, p3, g1, c3, Int.toNat_natCast]
  refine ⟨k0, w1, k3, by omega, (s_RR_here h g1 gn).mono (fun x6 M5 q => ?_)⟩
  obtain ⟨e5, -, x0, x1⟩ := q
  subst e5
  rw [r0, p5, g1, c5, Int.toNat_natCast]
  have i6 : i32 x6 := i32s (by omega) (by omega)
  refine ⟨i6, h.1, fun y2 => ⟨k0, ?_⟩, fun y2 => ⟨fun y3 => ⟨k0, w1, k5, by omega, ?_⟩, fun y3 => ⟨fun y13 v57 e57 => ⟨k0, ?_⟩, fun y13 => ⟨fun y15 => ⟨k0, ⟨by omega, by omega⟩, fun M70 e70 => ?_⟩, fun y15 => ⟨fun y26 => ⟨k0, ?_⟩, fun y26 => ⟨fun y32 => ⟨k0, ?_⟩, fun y32 => ⟨fun y37 => ⟨k0, ?_⟩, fun y37 => ?_⟩⟩⟩⟩⟩⟩⟩
  · have han := nend y2 (by omega)
    refine (s_RR_find h nk han y2).mono (fun x11 M10 q => ?_)
    obtain ⟨e10, hx⟩ := q
    subst e10
    rw [q16, q17, q18, nn7, nn8, nn9]
    have bx : i32 x11 ∧ (x11 ≠ -1 → ∃ i : Nat, x11 = i ∧ i < c) := by
      have hc := nk.2.1
      rcases hx with u | ⟨i, u, hi⟩
      · exact ⟨by rw [u]; exact i32s (by omega) (by omega), fun v => absurd u v⟩
      · exact ⟨by rw [u]; exact i32s (by omega) (by omega), fun _ => ⟨i, u, hi⟩⟩
    have hc := nk.2.1
    refine ⟨bx.1, h.1, fun y => ⟨k0, fun _ => ⟨kk7, ?_⟩⟩, fun y => ⟨k0, (s_RR_note (i32s (by omega) (by omega)) i6 h).mono (fun M22 q => ?_)⟩, fun y => ?_⟩
    · obtain ⟨i, ei, hi⟩ := bx.2 y
      omega
    · obtain ⟨h22, f22, r22, t22, t22'⟩ := q
      have n22 : ∀ b, b ≠ r → mI M22 b = mI M10 b := fun b hb => f22.2.2.2.2.2.2 b hb
      obtain ⟨oO, oP, op, -⟩ := h.off
      have F22 : FI (rdS r p O P) M10 M22 := f22.mono (fun b q => Or.inl (by have q' : b = r := q; omega))
      have g22 := g.cg (M' := M22) (a' := a) (by rw [r22 2 (by decide) (by decide)]; exact g1) (Nat.le_refl _) gn (r22 12 (by decide) (by decide)) (r22 7 (by decide) (by decide)) (r22 14 (by decide) (by decide)) (r22 5 (by decide) (by decide)) (fun i i1 i5 => n22 (r + i) (by omega)) (by rw [n22 p (by first | exact op | exact off0 op | exact off9 op (by decide) | exact off4 op | exact fun q => e1 q.symm | exact fun q => e2 q.symm | omega)]) (n22 O (by first | exact oO | exact off0 oO | exact off9 oO (by decide) | exact off4 oO | exact e1 | exact e3 | omega)) (n22 P (by first | exact oP | exact off0 oP | exact off9 oP (by decide) | exact off4 oP | exact e2 | exact fun q => e3 q.symm | omega))
      have rf : rrF M10 r p O P s M22 := ⟨F22, fun i _ i3 i4 _ _ _ _ => r22 i i3 i4, t22', fun i i6 i9 => n22 (r + i) (by omega), fun i _ => by rw [n22 p (by first | exact op | exact off0 op | exact off9 op (by decide) | exact off4 op | exact fun q => e1 q.symm | exact fun q => e2 q.symm | omega)], fun i _ => ⟨by rw [n22 O (by first | exact oO | exact off0 oO | exact off9 oO (by decide) | exact off4 oO | exact e1 | exact e3 | omega)], by rw [n22 P (by first | exact oP | exact off0 oP | exact off9 oP (by decide) | exact off4 oP | exact e2 | exact fun q => e3 q.symm | omega)]⟩⟩
      refine ⟨h22.1, h22.2.1.1, (s_RR_takeValue (i32s (by omega) (by omega)) (i32s (by omega) (by omega)) (Or.inl rfl) h22 g22 han (fun H' e => Or.inl ⟨rfl, by omega, by omega, e⟩) (by unfold jm; omega)).mono (fun x M' q => v_rt g22 rf q)⟩
    · have nx : x11 ≠ -1 := fun u => y (Or.inl u)
      obtain ⟨i, ei, hi⟩ := bx.2 nx
      obtain ⟨-, ni, nt⟩ := nk.2.2 i hi
      rw [ei, Int.toNat_natCast] at y
      have y6 : mI M10 r 6 = 0 ∨ mI M10 (r + 7) i = 4 := by
        by_cases u6 : mI M10 r 6 = 0
        · exact Or.inl u6
        · by_cases u4 : mI M10 (r + 7) i = 4
          · exact Or.inr u4
          · exact absurd (Or.inr ⟨u6, u4⟩) y
      rw [ei, Int.toNat_natCast]
      refine ⟨k0, kk7, by omega, kk8, by omega, kk9, by omega, (s_RR_takeValue (h.1 _ _).1 (h.1 _ _).1 nt h g han (fun H' e => ?_) ?_).mono (fun x M' q => v_rt g rrF.refl q)⟩
      · rcases ni with ⟨u1, u2, u3⟩ | ⟨u1, u2, u3, u4⟩ | ⟨u1, u2, u3⟩
        · exact Or.inr (Or.inr (Or.inl ⟨u1, u2, u3 (y6.resolve_right (by omega)), e⟩))
        · exact Or.inr (Or.inl ⟨Or.inl u1, u2, u3, by rw [u4, u1], e⟩)
        · have u6 := u3 (y6.resolve_right (by omega))
          exact Or.inr (Or.inl ⟨Or.inr u1, u2, u6.1, by rw [u6.2, u1], e⟩)
      · unfold jm
        clear nk bx hx y y6
        rcases ni with ⟨u1, -⟩ | ⟨u1, -⟩ | ⟨u1, -⟩ <;> omega
  · have han := nend y3 (by omega)
    have am := (hw a han).2.2.2 y3
    exact (s_RR_takeValue (i32s (by omega) (by omega)) (h.1 _ _).1 (Or.inl rfl) h g han (fun H' e => Or.inl ⟨rfl, by omega, by omega, e⟩) (by unfold jm; omega)).mono (fun x M' q => v_rt g rrF.refl q)
  · have han : a < n := by
      rcases y13 with u | u
      · exact nend u (by omega)
      · exact nend u (by omega)
    have b57 : v57 = 0 ∨ v57 = 1 := by rw [e57]; split <;> omega
    exact (s_RR_takeValue (i32s (by omega) (by omega)) (i32s (by omega) (by omega)) (Or.inr rfl) h g han (fun H' e => Or.inl ⟨rfl, by omega, by omega, e⟩) (by unfold jm; omega)).mono (fun x M' q => v_rt g rrF.refl q)
  · have han : a < n := by
      rcases y15 with u | u
      · exact nend u (by omega)
      · exact nend u (by omega)
    obtain ⟨h70, f70, r70, n70⟩ := rb_fld h ⟨by omega, by omega⟩ e70
    obtain ⟨oO, oP, op, -⟩ := h.off
    have a70 : mI M70 r 2 = ((a + 1 : Nat) : Int) := by rw [r70, if_pos rfl]; omega
    have A70 := (h.word f70).1
    have g70 := g.cg (M' := M70) (a' := a + 1) a70 (by omega) (by omega) (by rw [r70, if_neg (by decide)]) (by rw [r70, if_neg (by decide)]) (by rw [r70, if_neg (by decide)]) (by rw [r70, if_neg (by decide)]) (fun i i1 i5 => n70 (r + i) (by omega)) (by rw [n70 p (by first | exact op | exact off0 op | exact off9 op (by decide) | exact off4 op | exact fun q => e1 q.symm | exact fun q => e2 q.symm | omega)]) (n70 O (by first | exact oO | exact off0 oO | exact off9 oO (by decide) | exact off4 oO | exact e1 | exact e3 | omega)) (n70 P (by first | exact oP | exact off0 oP | exact off9 oP (by decide) | exact off4 oP | exact e2 | exact fun q => e3 q.symm | omega))
    have rf : rrF M5 r p O P s M70 := ⟨f70, fun i i2 _ _ _ _ _ _ => by rw [r70, if_neg i2], fun _ => by rw [r70, if_neg (by decide)], fun i i6 i9 => n70 (r + i) (by omega), fun i _ => by rw [n70 p (by first | exact op | exact off0 op | exact off9 op (by decide) | exact off4 op | exact fun q => e1 q.symm | exact fun q => e2 q.symm | omega)], fun i _ => ⟨by rw [n70 O (by first | exact oO | exact off0 oO | exact off9 oO (by decide) | exact off4 oO | exact e1 | exact e3 | omega)], by rw [n70 P (by first | exact oP | exact off0 oP | exact off9 oP (by decide) | exact off4 oP | exact e2 | exact fun q => e3 q.symm | omega)]⟩⟩
    obtain ⟨-, -, ⟨r0', -⟩, hW', -⟩ := id h70
    obtain ⟨⟨w1', ⟨p0', p3', p4', p5'⟩, -, ⟨k3', k4', k5'⟩, ⟨c3', c4', c5'⟩, -⟩, -⟩ := id hW'
    rw [r0', p3', c3', a70, Int.toNat_natCast]
    refine ⟨w1', k3', by omega, fun y => ?_, fun y => ?_⟩
    · have han1 : a + 1 < n := by
        have : a + 1 ≠ n := fun u => by rw [A70, u, hA] at y; omega
        omega
      refine (s_RR_takeLevel h70 g70 (by omega) ⟨x0, x1⟩ han1).mono (fun x M' q => ?_)
      obtain ⟨q1, q2, q3⟩ := l_rt (a := a) (by omega) g70 rf q
      exact ⟨q1, q2, k_RR_takeOperand_277 q2 q1 q3⟩
    · exact k_RR_takeOperand_277 h70.1 (i32s (by omega) (by omega)) ⟨h70, rf, Or.inr (Or.inr rfl), H, L, k, 1, a + 1, g70, by omega, fun u => absurd u (by omega)⟩
  · exact (s_RR_takeLevel h g (by omega) ⟨x0, x1⟩ (nend y26 (by omega))).mono (fun x M' q => l_rt (Nat.le_refl _) g rrF.refl q)
  · have han := nend y32 (by omega)
    refine (s_RR_mayDeny h g.1.2.1 (by omega)).mono (fun x88 M87 q => ?_)
    obtain ⟨e87, hx⟩ := q
    subst e87
    refine ⟨i32s (by omega) (by omega), h.1, fun _ => k_RR_takeOperand_239 h.1 (i32s (by omega) (by omega)) ⟨h, rrF.refl, Or.inr (Or.inr rfl), H, L, k, 1, a, g, by omega, fun u => absurd u (by omega)⟩, fun _ => ⟨k0, (s_RR_takeLevel h g (by omega) ⟨x0, x1⟩ han).mono (fun x M' q => ?_)⟩⟩
    obtain ⟨q1, q2, q3⟩ := l_rt (a := a) (Nat.le_refl _) g rrF.refl q
    exact ⟨q1, q2, k_RR_takeOperand_239 q2 q1 q3⟩
  · exact (s_RR_takeLevel h g (by omega) ⟨x0, x1⟩ (nend y37 (by omega))).mono (fun x M' q => l_rt (Nat.le_refl _) g rrF.refl q)
  · exact ⟨h, rrF.refl, Or.inr (Or.inr rfl), H, L, k, 1, a, g, by omega, fun u => absurd u (by omega)⟩
end RRN
end
