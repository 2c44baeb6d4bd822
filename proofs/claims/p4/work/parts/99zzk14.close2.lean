/-! The class's reader of rules: closing, its end and ')'. -/
section RRE
variable {G : mG} {d z r w T A B D N C n p O P K k a s L L' V F d0 c : Nat} {M0 M M' M1 M2 : mM} {H H' : Nat → Nat} {ns : Nat → Int} {wt : Int}
/-- what closing comes to -/
def cliQ (M : mM) (z r w T A B D N C n p O P K s V F : Nat) (ns : Nat → Int) (d0 L a : Nat) (x : Int) (M' : mM) : Prop := RB M' z r w T A B D N C n p O P K ∧ FI (rdS r p O P) M M' ∧ (∀ i, i ≠ 2 → i ≠ 3 → i ≠ 4 → i ≠ 5 → i ≠ 7 → i ≠ 12 → i ≠ 14 → mI M' r i = mI M r i) ∧ (mI M r 3 ≠ 0 → mI M' r 3 = mI M r 3) ∧ (∀ i, 6 ≤ i → i ≤ 9 → mI M' (r + i) = mI M (r + i)) ∧ (∀ i, i ≠ 2 → mI M' p i = mI M p i) ∧ (∀ i, i < s → mI M' O i = mI M O i ∧ mI M' P i = mI M P i) ∧ ((x = 2 ∧ M' = M) ∨ (x = 0 ∧ ∃ H' L' k' wt', RG M' r p O P n s V F ns d0 H' L' k' (a + 1) wt' ∧ L ≤ L'))
/-- the end of closing: a word is passed -/
theorem s_ci286 {l5 : Int} {Q : Int → mM → Prop} (h5 : l5 = 0 ∨ l5 = 1) (h : RB M z r w T A B D N C n p O P K) (ha : mI M r 2 = a) (han : a ≤ 16384) (hq : ∀ M', RB M' z r w T A B D N C n p O P K → FI (rdS r p O P) M M' → (∀ i, mI M' r i = if i = 2 then (a : Int) + 1 else if i = 7 then l5 else mI M r i) → (∀ b, b ≠ r → mI M' b = mI M b) → Q 0 M') : h_RR_closeInner_286 G d r l5 M Q := by
  refine k_RR_closeInner_286 h.1 (i32s (by omega) (by omega)) ⟨h.2.1.1, h5, fun M203 e203 => ?_⟩
  obtain ⟨h1, f1, g1, n1⟩ := rb_fld h (i32s (by omega) (by omega)) e203
  have e2 : mI M203 r 2 = a := by rw [g1, if_neg (by decide)]; exact ha
  rw [e2]
  refine ⟨⟨by omega, by omega⟩, fun M206 e206 => ?_⟩
  obtain ⟨h2, f2, g2, n2⟩ := rb_fld h1 ⟨by omega, by omega⟩ e206
  exact hq M206 h2 (f1.trans f2) (fun i => by
    rw [g2]
    by_cases y : i = 2
    · rw [if_pos y, if_pos y]
    · rw [if_neg y, if_neg y, g1]) (fun b hb => by rw [n2 b hb, n1 b hb])
/-- the operation that was open last is taken off, and a word is passed -/
theorem s_ciPop {Q : Int → mM → Prop} (h : RB M z r w T A B D N C n p O P K) (ha : mI M r 2 = a) (han : a ≤ 16384) (hk : mI M r 12 = ((k + 1 : Nat) : Int)) (hk3 : k < 336) {e : Nat} (he : mI M r 5 = ((e + 1 : Nat) : Int)) (he4 : e < 40) (hq : ∀ M', RB M' z r w T A B D N C n p O P K → FI (rdS r p O P) M M' → (∀ i, mI M' r i = if i = 2 then (a : Int) + 1 else if i = 7 then 0 else if i = 5 then (e : Int) else if i = 12 then (k : Int) else mI M r i) → (∀ b, b ≠ r → mI M' b = mI M b) → Q 0 M') : mK M r = 4 ∧ i32 ((mI M r 12) - 1) ∧ ∀ M110, M110 = mUI M r 12 ((mI M r 12) - 1) → i32 ((mI M110 r 5) - 1) ∧ ∀ M113, M113 = mUI M110 r 5 ((mI M110 r 5) - 1) → h_RR_closeInner_286 G d r 0 M113 Q := by
  rw [hk, show ((k + 1 : Nat) : Int) - 1 = (k : Int) by omega]
  refine ⟨h.2.1.1, ⟨by omega, by omega⟩, fun M110 e110 => ?_⟩
  obtain ⟨h1, f1, g1, n1⟩ := rb_fld h ⟨by omega, by omega⟩ e110
  have e5 : mI M110 r 5 = ((e + 1 : Nat) : Int) := by rw [g1, if_neg (by decide)]; exact he
  rw [e5, show ((e + 1 : Nat) : Int) - 1 = (e : Int) by omega]
  refine ⟨⟨by omega, by omega⟩, fun M113 e113 => ?_⟩
  obtain ⟨h2, f2, g2, n2⟩ := rb_fld h1 ⟨by omega, by omega⟩ e113
  refine s_ci286 (a := a) (Or.inl rfl) h2 (by rw [g2, if_neg (by decide), g1, if_neg (by decide)]; exact ha) han (fun M' h' f' g' n' => hq M' h' ((f1.trans f2).trans f') (fun i => ?_) (fun b hb => by rw [n' b hb, n2 b hb, n1 b hb]))
  rw [g']
  by_cases y2 : i = 2
  · rw [if_pos y2, if_pos y2]
  · by_cases y7 : i = 7
    · rw [if_neg y2, if_pos y7, if_neg y2, if_pos y7]
    · rw [if_neg y2, if_neg y7, if_neg y2, if_neg y7, g2]
      by_cases y5 : i = 5
      · rw [if_pos y5, if_pos y5]
      · rw [if_neg y5, if_neg y5, g1]
/-- ')' behind '(' -/
theorem s_ciOpen (h : RB M z r w T A B D N C n p O P K) (g : RG M r p O P n s V F ns d0 H L (k + 1) a 0) (han : a < n) (ho : mI M (r + 1) k = 37 ∨ mI M (r + 1) k = 40 ∨ mI M (r + 1) k = 41) : h_RR_closeInner_165 G d r k 0 0 M (cliQ M z r w T A B D N C n p O P K s V F ns d0 L a) := by
  have rm := g.room
  have hwN := h.2.2.2.1.2.2.1
  have hN := h.2.2.2.1.1.2.2.2.2.2.2.1
  obtain ⟨oO, oP, op, e1, e2, e3⟩ := h.off
  obtain ⟨b1, b2, b3, b4⟩ := sum_top M r k
  have u0 : uw 0 = 1 := rfl
  have cd : cdp (mI M (r + 1) k) = 1 := by unfold cdp; rw [if_pos (by omega)]
  have ck : ckk (mI M (r + 1) k) = 0 := by unfold ckk; rw [if_neg (by omega)]
  have c0 : cm (mI M (r + 1) k) (mI M (r + 4) k) = 0 := by unfold cm; rw [if_neg (by omega), if_neg (by omega)]
  have nj : ¬ jm (mI M (r + 1) k) := by unfold jm; omega
  rw [cd] at b4
  rw [ck] at b2
  rw [c0] at b1
  obtain ⟨⟨g1, g2, g3, g4⟩, -, ⟨-, gs⟩, gc, ⟨gd, gd4⟩, -, -, ⟨gH, gHs⟩, gC, gL, gt⟩ := id g
  refine k_RR_closeInner_165 h.1 ⟨by omega, by omega⟩ (i32s (by omega) (by omega)) (i32s (by omega) (by omega)) ⟨fun _ => ⟨fun _ => ⟨fun _ => ?_, fun y => absurd rfl y⟩, fun y => absurd (Or.inl rfl) y⟩, fun y => absurd rfl y⟩
  refine s_ciPop (a := a) (k := k) (e := d0 + sdp M r k) h g1 (by omega) g2 (by omega) (by rw [gd, b4]; rfl) (by omega) (fun M' h' f' g' n' => ?_)
  have nt : ∀ i, 1 ≤ i → mI M' (r + i) = mI M (r + i) := fun i hi => n' (r + i) (by omega)
  refine ⟨h', f', fun i i2 i3 i4 i5 i7 i12 i14 => by rw [g', if_neg i2, if_neg i7, if_neg i5, if_neg i12], fun _ => by rw [g', if_neg (by decide), if_neg (by decide), if_neg (by decide), if_neg (by decide)], fun i i6 i9 => nt i (by omega), fun i _ => by rw [n' p (by omega)], fun i _ => by rw [n' O (by omega), n' P (by omega)]; exact ⟨rfl, rfl⟩, Or.inr ⟨rfl, H, L, k, 0, ?_, Nat.le_refl _⟩⟩
  refine g.popc ⟨by rw [g', if_pos rfl], by rw [g', if_neg (by decide), if_neg (by decide), if_neg (by decide), if_pos rfl], by rw [g', if_neg (by decide), if_pos rfl], by rw [g', if_neg (by decide), if_neg (by decide), if_neg (by decide), if_neg (by decide), gc, b2]; omega, by rw [g', if_neg (by decide), if_neg (by decide), if_pos rfl]⟩ (fun j _ => by rw [nt 1 (by omega)]) (fun j _ => by rw [nt 2 (by omega)]) (fun j _ => by rw [nt 3 (by omega)]) (fun j _ => by rw [nt 4 (by omega)]) (fun j => by rw [nt 5 (by omega)]; exact gt j) (by rw [n' p (by omega)]; exact g4) (Nat.le_refl _) (fun j _ => by rw [n' O (by omega)]) (fun _ _ => rfl) (by omega) gHs (fun pc p0 p1 => ?_) (by omega) han
  rw [n' O (by omega), n' P (by omega)]
  obtain ⟨a1, a2, a3⟩ := gC pc p0 p1
  refine ⟨a1, fun q => ?_, a3⟩
  rcases a2 q with ⟨j, j1, j2, j3⟩ | v
  · have jk : j ≠ k := fun y => nj (by rw [← y]; exact j3)
    exact Or.inl ⟨j, by omega, by rw [nt 3 (by omega)]; exact j2, by rw [nt 1 (by omega)]; exact j3⟩
  · exact Or.inr v
end RRE
