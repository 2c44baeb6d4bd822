/-! The class's reader of rules: readRule, begin, know, varOf, kindOf. -/
section RRO
variable {G : mG} {d z r w T A B D N C n p O P K k a a' s L L1 V F d0 c : Nat} {M0 M M' M1 M2 : mM} {H H1 : Nat → Nat} {ns : Nat → Int} {wt : Int}
/-- what reading a rule comes to: 1 its code stands from s to L' -/
def rleQ (M0 : mM) (z r w T A B D N C n p O P K s V F : Nat) (ns : Nat → Int) (d0 : Nat) (a : Nat) (x : Int) (M' : mM) : Prop := RB M' z r w T A B D N C n p O P K ∧ rrF M0 r p O P s M' ∧ (∀ j, mI M' (r + 5) j = 0 ∨ mI M' (r + 5) j = 1) ∧ ((x = 0 ∧ ∃ a' L' : Nat, mI M' r 2 = a' ∧ mI M' p 2 = L' ∧ a' ≤ n ∧ s ≤ L' ∧ L' ≤ a') ∨ (x = 1 ∧ ∃ H' L' a', RG M' r p O P n s V F ns d0 H' L' 0 a' 0 ∧ a ≤ a'))
theorem s_RR_isTruth (h : RB M z r w T A B D N C n p O P K) (ht : ∀ j, mI M (r + 5) j = 0 ∨ mI M (r + 5) j = 1) : Ci G y_RR_isTruth d [vr r] M (fun x M' => M' = M ∧ (x = 0 ∨ x = 1)) := by
  obtain ⟨-, ⟨k0, ⟨-, -, -, -, q13, -⟩, ⟨-, -, -, -, kk5, -⟩, ⟨-, -, -, -, nn5, -⟩⟩, -⟩ := id h
  refine k_RR_isTruth h.1 ?_
  rw [q13, nn5]
  exact ⟨k0, kk5, ⟨by omega, by omega⟩, ht 0, rfl, ht 0⟩
/-- the rule's end -/
theorem s_rr_end {l1 l2 l3 x : Int} {l5 : Int} (i1 : i32 l1) (i2 : i32 l2) (b3 : 0 ≤ l3 ∧ l3 ≤ 16384) (i5 : i32 l5) (hx : x = 0 ∨ x = 1 ∨ x = 2) (hend : l5 ≤ 0 ∨ x ≠ 0) (h : RB M z r w T A B D N C n p O P K) (f : rrF M0 r p O P s M) (g : RG M r p O P n s V F ns d0 H L k a' wt) (haa : a ≤ a') (h1 : x = 1 → k = 0 ∧ wt = 0) : h_RR_readRule_37 G (d + 1) r l1 l2 l3 x l5 M (rleQ M0 z r w T A B D N C n p O P K s V F ns d0 a) := by
  have gt := g.2.2.2.2.2.2.2.2.2.2
  have k0 := h.2.1.1
  have fin : ∀ {M' : mM}, RB M' z r w T A B D N C n p O P K → rrF M0 r p O P s M' → RG M' r p O P n s V F ns d0 H L k a' wt → h_RR_readRule_154 G (d + 1) x M' (rleQ M0 z r w T A B D N C n p O P K s V F ns d0 a) := fun {M'} hh ff gg => by
    refine k_RR_readRule_154 hh.1 (i32s (by omega) (by omega)) (fun v e => ⟨hh, ff, gg.2.2.2.2.2.2.2.2.2.2, ?_⟩)
    by_cases u : x = 1
    · obtain ⟨e1, e2⟩ := h1 u
      rw [if_pos u] at e
      rw [e1, e2] at gg
      exact Or.inr ⟨e, H, L, a', gg, haa⟩
    · rw [if_neg u] at e
      exact Or.inl ⟨e, gg.ref⟩
  refine k_RR_readRule_37 h.1 i1 i2 (i32s (by omega) (by omega)) (i32s (by omega) (by omega)) i5 ⟨fun _ => ⟨fun _ => fin h f g, fun _ => ⟨k0, (s_RR_isTruth h gt).mono (fun x26 M25 q => ?_)⟩⟩, fun y => absurd hend y⟩
  obtain ⟨e25, hx26⟩ := q
  subst e25
  refine ⟨i32s (by omega) (by omega), h.1, fun v29 _ => ⟨fun _ => fin h f g, fun _ => ⟨k0, (s_RR_note (i32s (by omega) (by omega)) (i32s (by omega) (by omega)) h).mono (fun M22 q => ?_)⟩⟩⟩
  obtain ⟨h22, f22, r22, t22, t22'⟩ := q
  have n22 : ∀ b, b ≠ r → mI M22 b = mI M25 b := fun b hb => f22.2.2.2.2.2.2 b hb
  obtain ⟨oO, oP, op, -⟩ := h.off
  have F22 : FI (rdS r p O P) M25 M22 := f22.mono (fun b q => Or.inl (by have q' : b = r := q; omega))
  have g22 := g.cg (M' := M22) (a' := a') (by rw [r22 2 (by decide) (by decide)]; exact g.1.1) (Nat.le_refl _) g.2.2.1.1 (r22 12 (by decide) (by decide)) (r22 7 (by decide) (by decide)) (r22 14 (by decide) (by decide)) (r22 5 (by decide) (by decide)) (fun i i1 i5 => n22 (r + i) (by omega)) (by rw [n22 p (by omega)]) (n22 O (by omega)) (n22 P (by omega))
  have rf : rrF M25 r p O P s M22 := ⟨F22, fun i _ i3 i4 _ _ _ _ => r22 i i3 i4, t22', fun i i6 i9 => n22 (r + i) (by omega), fun i _ => by rw [n22 p (by omega)], fun i _ => ⟨by rw [n22 O (by omega)], by rw [n22 P (by omega)]⟩⟩
  exact ⟨h22.1, fin h22 (f.trans rf) g22⟩
/-- negations are grouped; then it goes on with what Next says -/
theorem s_rr68 {l1 l2 l3 x l5 : Int} {Q : Int → mM → Prop} (i1 : i32 l1) (i2 : i32 l2) (i3 : i32 l3) (i4 : i32 x) (i5 : i32 l5) (nx : ∀ (M : mM) (H : Nat → Nat) (L k : Nat) (wt : Int), RB M z r w T A B D N C n p O P K → rrF M0 r p O P s M → RG M r p O P n s V F ns d0 H L k a' wt → (x = 1 → k = 0 ∧ wt = 0) → h_RR_readRule_37 G (d + 1) r l1 l2 l3 x (l5 + (-1)) M Q) : ∀ (k : Nat) (M : mM) (H : Nat → Nat) (L : Nat) (wt : Int), RB M z r w T A B D N C n p O P K → rrF M0 r p O P s M → RG M r p O P n s V F ns d0 H L k a' wt → (x = 1 → k = 0 ∧ wt = 0) → h_RR_readRule_68 G (d + 1) r l1 l2 l3 x l5 M Q := by
  intro k
  induction k with
  | zero =>
    intro M H L wt h f g h1
    have g2 := g.1.2.1
    exact k_RR_readRule_68 h.1 i1 i2 i3 i4 i5 ⟨h.2.1.1, fun _ y => absurd y (by omega), fun _ => nx M H L 0 wt h f g h1, fun y => absurd (Or.inr (Or.inl (by omega))) y⟩
  | succ k ih =>
    intro M H L wt h f g h1
    have g2 := g.1.2.1
    have g7 := g.1.2.2.1
    have rm := g.room
    obtain ⟨-, ⟨k0, ⟨q8, -⟩, ⟨kk1, -⟩, ⟨nn1, -⟩⟩, -⟩ := id h
    refine k_RR_readRule_68 h.1 i1 i2 i3 i4 i5 ?_
    rw [g2, q8, nn1, show (((k + 1 : Nat) : Int) - 1).toNat = k by omega, g7]
    refine ⟨k0, fun _ _ => ⟨kk1, by omega⟩, fun _ => nx M H L (k + 1) wt h f g h1, fun y => ⟨⟨by omega, by omega⟩, fun M66 e66 => ?_⟩⟩
    have w0 : wt = 0 := Classical.byContradiction (fun u => y (Or.inl u))
    have o40 : mI M (r + 1) k = 40 := Classical.byContradiction (fun u => y (Or.inr (Or.inr u)))
    subst w0
    refine (s_RR_group g h (by rw [o40]; exact Or.inr (Or.inl rfl)) e66).mono (fun M68 q => ?_)
    have fq := f.trans (g_rrF q)
    obtain ⟨q1, -, -, -, -, -, -, -, H', L', g', -⟩ := q
    exact ⟨q1.1, ih M68 H' L' 0 q1 fq g' (fun u => by have := (h1 u).1; omega)⟩
theorem s_rr37 {l1 l2 l3 : Int} (i1 : i32 l1) (i2 : i32 l2) (b3 : 0 ≤ l3 ∧ l3 ≤ 16384) : ∀ (t : Nat) (M : mM) (H : Nat → Nat) (L k : Nat) (wt : Int) (a' : Nat), t ≤ 20000 → a ≤ a' → RB M z r w T A B D N C n p O P K → rrF M0 r p O P s M → RG M r p O P n s V F ns d0 H L k a' wt → NK M r A n V F ns c → h_RR_readRule_37 G (d + 3) r l1 l2 l3 0 t M (rleQ M0 z r w T A B D N C n p O P K s V F ns d0 a) := by
  intro t
  induction t with
  | zero =>
    intro M H L k wt a' ht haa h f g nk
    exact s_rr_end i1 i2 b3 (i32s (by omega) (by omega)) (Or.inl rfl) (Or.inl (by omega)) h f g haa (fun u => absurd u (by omega))
  | succ t ih =>
    intro M H L k wt a' ht haa h f g nk
    have g7 := g.1.2.2.1
    have gw := g.2.1
    have it : i32 ((t + 1 : Nat) : Int) := i32s (by omega) (by omega)
    have go : ∀ {x : Int} {M1 : mM}, rtQ M z r w T A B D N C n p O P K s V F ns d0 a' x M1 → i32 x ∧ mOk M1 ∧ h_RR_readRule_68 G (d + 3) r l1 l2 l3 x ((t + 1 : Nat) : Int) M1 (rleQ M0 z r w T A B D N C n p O P K s V F ns d0 a) := fun {x M1} q => by
      obtain ⟨q1, q2, q3, H', L', k', wt', a2, g', q4, q5⟩ := q
      have ix : i32 x := i32s (by omega) (by omega)
      refine ⟨ix, q1.1, s_rr68 (M0 := M) i1 i2 (i32s (by omega) (by omega)) ix it (fun M2 H2 L2 k2 wt2 h2 f2 g2 e2 => ?_) k' M1 H' L' wt' q1 q2 g' q5⟩
      rw [show ((t + 1 : Nat) : Int) + (-1) = (t : Int) by omega]
      by_cases u : x = 0
      · rw [u]
        exact ih M2 H2 L2 k2 wt2 a2 (by omega) (by omega) h2 (f.trans f2) g2 (nk.rr h f2)
      · exact s_rr_end i1 i2 b3 (i32s (by omega) (by omega)) q3 (Or.inr u) h2 (f.trans f2) g2 (by omega) e2
    refine k_RR_readRule_37 h.1 i1 i2 (i32s (by omega) (by omega)) (i32s (by omega) (by omega)) it ⟨fun y => absurd y (by omega), fun _ => ⟨h.2.1.1, fun y => ?_, fun y => ?_⟩⟩
    · have w0 : wt = 0 := by omega
      subst w0
      exact (s_RR_takeOperator i2 h g).mono (fun x M1 q => go q)
    · have w1 : wt = 1 := by omega
      subst w1
      exact (s_RR_takeOperand h g nk).mono (fun x M1 q => go q)
theorem s_RR_readRule {l1 l2 : Int} (i1 : i32 l1) (i2 : i32 l2) (h : RB M z r w T A B D N C n p O P K) (ha : mI M r 2 = a) (han : a ≤ n) (hs : mI M p 2 = s) (hsa : s ≤ a) (hd : mI M r 5 = d0) (hd4 : d0 ≤ 40) (ht : ∀ j, mI M (r + 5) j = 0 ∨ mI M (r + 5) j = 1) (nk : NK M r A n V F ns c) : Ci G y_RR_readRule (d + 4) [vr r, vi l1, vi l2] M (rleQ M z r w T A B D N C n p O P K s V F ns d0 a) := by
  have hnN := h.2.2.2.1.2.2.1
  have hN := h.2.2.2.1.1.2.2.2.2.2.2.1
  refine k_RR_readRule h.1 i1 i2 ⟨h.2.1.1, (s_RR_here h ha han).mono (fun x3 M2 q => ?_)⟩
  obtain ⟨e2, -, x0, x1⟩ := q
  subst e2
  refine ⟨i32s (by omega) (by omega), h.1, h.2.1.1, fun M6 e6 M8 e8 M10 e10 => ?_⟩
  obtain ⟨h6, f6, r6, n6⟩ := rb_fld h (v := 0) (i32s (by omega) (by omega)) e6
  obtain ⟨h8, f8, r8, n8⟩ := rb_fld h6 (v := 0) (i32s (by omega) (by omega)) e8
  obtain ⟨h10, f10, r10, n10⟩ := rb_fld h8 (v := 1) (i32s (by omega) (by omega)) e10
  have R : ∀ i, mI M10 r i = if i = 7 then 1 else if i = 14 then 0 else if i = 12 then 0 else mI M2 r i := fun i => by rw [r10, r8, r6]
  have Nn : ∀ b, b ≠ r → mI M10 b = mI M2 b := fun b hb => by rw [n10 b hb, n8 b hb, n6 b hb]
  obtain ⟨oO, oP, op, -⟩ := h.off
  have rf : rrF M2 r p O P s M10 := ⟨(f6.trans f8).trans f10, fun i _ _ _ _ i7 i12 i14 => by rw [R, if_neg i7, if_neg i14, if_neg i12], fun _ => by rw [R, if_neg (by decide), if_neg (by decide), if_neg (by decide)], fun i i6 i9 => Nn (r + i) (by omega), fun i _ => by rw [Nn p (by omega)], fun i _ => ⟨by rw [Nn O (by omega)], by rw [Nn P (by omega)]⟩⟩
  have g : RG M10 r p O P n s V F ns d0 (fun _ => 0) s 0 a 1 := by
    refine ⟨⟨by rw [R, if_neg (by decide), if_neg (by decide), if_neg (by decide)]; exact ha, by rw [R, if_neg (by decide), if_neg (by decide), if_pos rfl]; rfl, by rw [R, if_pos rfl], by rw [Nn p (by omega)]; exact hs⟩, Or.inr rfl, ⟨han, Nat.le_refl _⟩, by rw [R, if_neg (by decide), if_pos rfl]; rfl, ⟨by rw [R, if_neg (by decide), if_neg (by decide), if_neg (by decide)]; exact hd, hd4⟩, fun i hi => absurd hi (by omega), fun i hi => absurd hi (by omega), ⟨rfl, by show 0 + s ≤ s; omega⟩, fun pc h0 h1 => absurd h0 (by omega), hsa, fun j => by rw [Nn (r + 5) (by omega)]; exact ht j⟩
  obtain ⟨-, -, ⟨r0, -⟩, hW, -⟩ := id h10
  have w2 := hW.2.1
  have wk := hW.1.1
  rw [r0, w2, g.1.1, show ((n + 1 : Int)) - (a : Int) = ((n + 1 - a : Nat) : Int) by omega]
  exact ⟨wk, s_rr37 i1 i2 ⟨x0, x1⟩ (n + 1 - a) M10 (fun _ => 0) s 0 1 a (by omega) (Nat.le_refl _) h10 rf g (nk.rr h rf)⟩
/-- a name's var, or -1 -/
theorem s_RR_varOf {v : Nat} (h : RB M z r w T A B D N C n p O P K) (nk : NK M r A n V F ns c) (hv : v < n) (h2 : mI M A v = 2) (h6 : mI M r 6 = 0) : Ci G y_RR_varOf (d + 2) [vr r, vi v] M (fun x M' => M' = M ∧ (x = -1 ∨ (0 ≤ x ∧ x < V))) := by
  obtain ⟨-, ⟨k0, ⟨-, -, -, -, -, -, q16, q17, q18⟩, ⟨-, -, -, -, -, -, kk7, kk8, kk9⟩, ⟨-, -, -, -, -, -, nn7, nn8, nn9⟩⟩, -⟩ := id h
  have hn := h.2.2.2.1.2.2.1
  have hN := h.2.2.2.1.1.2.2.2.2.2.2.1
  refine k_RR_varOf h.1 (i32s (by omega) (by omega)) ⟨k0, (s_RR_find h nk hv h2).mono (fun x3 M2 q => ?_)⟩
  obtain ⟨e2, hx⟩ := q
  subst e2
  rw [q16, q17, nn7, nn8]
  have hc := nk.2.1
  refine ⟨?_, h.1, fun y => ⟨k0, kk7, ?_, fun _ => ⟨kk8, ?_⟩⟩, fun v12 e12 => ⟨rfl, ?_⟩⟩
  · rcases hx with u | ⟨i, u, hi⟩ <;> rw [u] <;> exact i32s (by omega) (by omega)
  · rcases hx with u | ⟨i, u, hi⟩
    · exact absurd u y
    · omega
  · rcases hx with u | ⟨i, u, hi⟩
    · exact absurd u y
    · omega
  · rcases hx with u | ⟨i, u, hi⟩
    · rw [if_pos (Or.inl u)] at e12
      exact Or.inl e12
    · rw [u, Int.toNat_natCast] at e12
      by_cases y : mI M2 (r + 7) i = 5
      · rw [if_neg (fun q => q.elim (fun v => by omega) (fun v => v y))] at e12
        rcases (nk.2.2 i hi).2.1 with ⟨-, v1, v2⟩ | ⟨v0, -⟩ | ⟨v0, -⟩
        · rw [e12]
          exact Or.inr ⟨v1, v2 h6⟩
        · exact absurd y (by omega)
        · exact absurd y (by omega)
      · rw [if_pos (Or.inr y)] at e12
        exact Or.inl e12
theorem s_RR_kindOf {v : Nat} (h : RB M z r w T A B D N C n p O P K) (nk : NK M r A n V F ns c) (hv : v < n) (h2 : mI M A v = 2) : Ci G y_RR_kindOf (d + 2) [vr r, vi v] M (fun x M' => M' = M ∧ (0 ≤ x ∧ x ≤ 2)) := by
  obtain ⟨-, ⟨k0, ⟨-, -, -, -, -, -, q16, q17, q18⟩, ⟨-, -, -, -, -, -, kk7, kk8, kk9⟩, ⟨-, -, -, -, -, -, nn7, nn8, nn9⟩⟩, -⟩ := id h
  have hn := h.2.2.2.1.2.2.1
  have hN := h.2.2.2.1.1.2.2.2.2.2.2.1
  refine k_RR_kindOf h.1 (i32s (by omega) (by omega)) ⟨k0, (s_RR_find h nk hv h2).mono (fun x3 M2 q => ?_)⟩
  obtain ⟨e2, hx⟩ := q
  subst e2
  rw [q18, nn9]
  have hc := nk.2.1
  refine ⟨?_, h.1, fun y => ⟨k0, kk9, ?_⟩, fun v12 e12 => ⟨rfl, ?_⟩⟩
  · rcases hx with u | ⟨i, u, hi⟩ <;> rw [u] <;> exact i32s (by omega) (by omega)
  · rcases hx with u | ⟨i, u, hi⟩
    · exact absurd u y
    · omega
  · rw [e12]
    (repeat' split) <;> omega
/-- one name more -/
theorem s_RR_know {v : Nat} {l2 l3 l4 : Int} (h : RB M z r w T A B D N C n p O P K) (nk : TN M r A n V F ns c) (hv : v < n) (h2 : mI M A v = 2) (i2 : i32 l2) (i3 : i32 l3) (h4 : l4 = 0 ∨ l4 = 1) (hl : (l2 = 5 ∧ 0 ≤ l3 ∧ l3 < V) ∨ ((l2 = 4 ∨ l2 = 7) ∧ 0 ≤ l3 ∧ l3 < F ∧ ns l3.toNat = l2)) : Cv G y_RR_know d [vr r, vi v, vi l2, vi l3, vi l4] M (fun M' => RB M' z r w T A B D N C n p O P K ∧ FI (fun b => r ≤ b ∧ b ≤ r + 9) M M' ∧ (∀ i, i ≠ 19 → mI M' r i = mI M r i) ∧ (∀ i, i ≤ 5 → 1 ≤ i → mI M' (r + i) = mI M (r + i)) ∧ ∃ c', TN M' r A n V F ns c' ∧ c ≤ c') := by
  obtain ⟨-, ⟨k0, ⟨-, -, -, -, -, q15, q16, q17, q18⟩, ⟨-, -, -, -, -, kk6, kk7, kk8, kk9⟩, ⟨-, -, -, -, -, nn6, nn7, nn8, nn9⟩⟩, -⟩ := id h
  have hn := h.2.2.2.1.2.2.1
  have hN := h.2.2.2.1.1.2.2.2.2.2.2.1
  obtain ⟨m1, m2, m3⟩ := id nk
  refine k_RR_know h.1 (i32s (by omega) (by omega)) i2 i3 (i32s (by omega) (by omega)) ?_
  rw [q15, nn6, m1, Int.toNat_natCast]
  refine ⟨k0, kk6, i32s (by omega) (by omega), fun y => ⟨h, FI.refl, fun _ _ => rfl, fun _ _ _ => rfl, c, nk, Nat.le_refl _⟩, fun y => ⟨by omega, fun M13 e13 => ?_⟩⟩
  obtain ⟨h13, f13, g13, n13⟩ := rb_tab h (i := 6) (by omega) (by omega) (i32s (by omega) (by omega)) e13
  obtain ⟨-, ⟨k0a, ⟨-, -, -, -, -, -, qa, -⟩, ⟨-, -, -, -, -, -, ka, -⟩, ⟨-, -, -, -, -, -, na, -⟩⟩, -⟩ := id h13
  rw [qa, na, n13 r (by omega), m1, Int.toNat_natCast]
  refine ⟨ka, by omega, fun M17 e17 => ?_⟩
  obtain ⟨h17, f17, g17, n17⟩ := rb_tab h13 (i := 7) (by omega) (by omega) i2 e17
  obtain ⟨-, ⟨k0b, ⟨-, -, -, -, -, -, -, qb, -⟩, ⟨-, -, -, -, -, -, -, kb, -⟩, ⟨-, -, -, -, -, -, -, nb, -⟩⟩, -⟩ := id h17
  rw [qb, nb, n17 r (by omega), n13 r (by omega), m1, Int.toNat_natCast]
  refine ⟨kb, by omega, fun M21 e21 => ?_⟩
  obtain ⟨h21, f21, g21, n21⟩ := rb_tab h17 (i := 8) (by omega) (by omega) i3 e21
  obtain ⟨-, ⟨k0c, ⟨-, -, -, -, -, -, -, -, qc⟩, ⟨-, -, -, -, -, -, -, -, kc⟩, ⟨-, -, -, -, -, -, -, -, nc⟩⟩, -⟩ := id h21
  rw [qc, nc, n21 r (by omega), n17 r (by omega), n13 r (by omega), m1, Int.toNat_natCast]
  refine ⟨kc, by omega, h4, fun M26 e26 => ?_⟩
  obtain ⟨h26, f26, g26, n26⟩ := rb_tab h21 (i := 9) (by omega) (by omega) (i32s (by omega) (by omega)) e26
  have r26 : mI M26 r = mI M r := by rw [n26 r (by omega), n21 r (by omega), n17 r (by omega), n13 r (by omega)]
  rw [r26, m1]
  refine ⟨⟨by omega, by omega⟩, fun M29 e29 => ?_⟩
  obtain ⟨h29, f29, r29, n29⟩ := rb_fld h26 ⟨by omega, by omega⟩ e29
  have fi : FI (fun b => r ≤ b ∧ b ≤ r + 9) M M29 := by
    have x13 : FI (fun b => r ≤ b ∧ b ≤ r + 9) M M13 := by rw [e13]; exact FI.ui ⟨by omega, by omega⟩
    have x17 : FI (fun b => r ≤ b ∧ b ≤ r + 9) M13 M17 := by rw [e17]; exact FI.ui ⟨by omega, by omega⟩
    have x21 : FI (fun b => r ≤ b ∧ b ≤ r + 9) M17 M21 := by rw [e21]; exact FI.ui ⟨by omega, by omega⟩
    have x26 : FI (fun b => r ≤ b ∧ b ≤ r + 9) M21 M26 := by rw [e26]; exact FI.ui ⟨by omega, by omega⟩
    have x29 : FI (fun b => r ≤ b ∧ b ≤ r + 9) M26 M29 := by rw [e29]; exact FI.ui ⟨by omega, by omega⟩
    exact (((x13.trans x17).trans x21).trans x26).trans x29
  have hA := (h.word ((((f13.trans f17).trans f21).trans f26).trans f29)).1
  refine ⟨h29, fi, fun i i19 => by rw [r29, if_neg i19, r26], fun i i5 i1 => by rw [n29 _ (by omega), n26 _ (by omega), n21 _ (by omega), n17 _ (by omega), n13 _ (by omega)], c + 1, ⟨by rw [r29, if_pos rfl]; omega, by omega, fun i hi => ?_⟩, by omega⟩
  rw [hA, show mI M29 (r + 6) i = if i = c then (v : Int) else mI M (r + 6) i by rw [n29 _ (by omega), n26 _ (by omega), n21 _ (by omega), n17 _ (by omega), g13], show mI M29 (r + 7) i = if i = c then l2 else mI M (r + 7) i by rw [n29 _ (by omega), n26 _ (by omega), n21 _ (by omega), g17, n13 _ (by omega)], show mI M29 (r + 8) i = if i = c then l3 else mI M (r + 8) i by rw [n29 _ (by omega), n26 _ (by omega), g21, n17 _ (by omega), n13 _ (by omega)], show mI M29 (r + 9) i = if i = c then l4 else mI M (r + 9) i by rw [n29 _ (by omega), g26, n21 _ (by omega), n17 _ (by omega), n13 _ (by omega)]]
  by_cases y : i = c
  · rw [if_pos y, if_pos y, if_pos y, if_pos y]
    exact ⟨⟨v, rfl, hv, h2⟩, hl, h4⟩
  · rw [if_neg y, if_neg y, if_neg y, if_neg y]
    exact m3 i (by omega)
end RRO
