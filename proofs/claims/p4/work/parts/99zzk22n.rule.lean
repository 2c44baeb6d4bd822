/-! The class's reader: a whole rule, exactly. -/
/-- the fault of a rule that is of the wrong kind: l1 = 0 any kind, 1 a number, 2 a truth -/
noncomputable def kfv (u : Ru) (l1 : Int) (a' : Nat) : Int × Int := kft (l1 = 0 ∨ kdq (ruW u) (uE u) 0 (ruI u) a' = (if l1 = 2 then 1 else 0)) (uP u (ruI u))
/-- a rule has been read up to word a' -/
def rlD (u : Ru) (r p O P s a' : Nat) (ft : Int × Int) (M' : mM) : Prop := ∃ L' : Nat, mI M' p 2 = L' ∧ Eo (ruW u) 6 (ruI u) a' ∧ mI M' (r + 5) 0 = kdq (ruW u) (uE u) 0 (ruI u) a' ∧ FT M' r ft ∧ Cd (ruW u) (uC u) (uP u) (mI M' O) (mI M' P) 0 0 0 (ruI u) a' s L' ∧ mI M' r 5 = slv (uZ u) ∧ Rc (ruW u) (uS u) (uK u) (uZ u) a'
def rleV (u : Ru) (r p O P s : Nat) (l1 x : Int) (M' : mM) : Prop := ∃ a' : Nat, mI M' r 2 = a' ∧ ((x = 0 ∧ Rf (ruW u) (uS u) (uK u) a') ∨ (x = 1 ∧ rlD u r p O P s a' (fst9 (fst9 (uF u) (fl (ruW u) (uE u) (uP u) 0 (ruI u) a')) (kfv u l1 a')) M'))
section RXE
variable {G : mG} {d z r w T A B D N C n p O P K k a a' s L L1 V F d0 c b : Nat} {M0 M M' M1 M2 : mM} {H H1 : Nat → Nat} {ns : Nat → Int} {wt : Int} {u : Ru}
abbrev rleX (u : Ru) (M0 : mM) (z r w T A B D N C n p O P K s V F : Nat) (ns : Nat → Int) (d0 a : Nat) (l1 x : Int) (M' : mM) : Prop := rleQ M0 z r w T A B D N C n p O P K s V F ns d0 a x M' ∧ rleV u r p O P s l1 x M'
theorem x_RR_isTruth (h : RB M z r w T A B D N C n p O P K) (ht : ∀ j, mI M (r + 5) j = 0 ∨ mI M (r + 5) j = 1) : Ci G y_RR_isTruth d [vr r] M (fun x M' => M' = M ∧ (x = 0 ∨ x = 1) ∧ x = mI M (r + 5) 0) := by
  obtain ⟨-, ⟨k0, ⟨-, -, -, -, q13, -⟩, ⟨-, -, -, -, kk5, -⟩, ⟨-, -, -, -, nn5, -⟩⟩, -⟩ := id h
  refine k_RR_isTruth h.1 ?_
  rw [q13, nn5]
  exact ⟨k0, kk5, ⟨by omega, by omega⟩, ht 0, rfl, ht 0, rfl⟩
theorem FT.none {ft : Int × Int} (h : FT M r ft) : FT M r (fst9 ft (0, 0)) := Fq_none rfl rfl ft h
/-- the rule's end -/
theorem x_rr_end {l1 l2 l3 x : Int} {l5 : Int} (i1 : i32 l1) (i2 : i32 l2) (b3 : 0 ≤ l3 ∧ l3 ≤ 16384) (e3 : l3 = uP u (ruI u)) (i5 : i32 l5) (hx : x = 1 ∨ x = 2) (h : RB M z r w T A B D N C n p O P K) (f : rrF M0 r p O P s M) (g : RG M r p O P n s V F ns d0 H L k a' wt) (haa : a ≤ a') (h1 : x = 1 → k = 0 ∧ wt = 0) (v : rtV u r p O P s b x M) : h_RR_readRule_37 G (d + 1) r l1 l2 l3 x l5 M (rleX u M0 z r w T A B D N C n p O P K s V F ns d0 a l1) := by
  have gt := g.2.2.2.2.2.2.2.2.2.2
  have k0 := h.2.1.1
  obtain ⟨a9, ea9, cs⟩ := v
  have fin : ∀ {M' : mM}, RB M' z r w T A B D N C n p O P K → rrF M0 r p O P s M' → RG M' r p O P n s V F ns d0 H L k a' wt → mI M' r 2 = a9 → (x = 1 → rlD u r p O P s a9 (fst9 (fst9 (uF u) (fl (ruW u) (uE u) (uP u) 0 (ruI u) a9)) (kfv u l1 a9)) M') → h_RR_readRule_154 G (d + 1) x M' (rleX u M0 z r w T A B D N C n p O P K s V F ns d0 a l1) := fun {M'} hh ff gg e9 hD => by
    refine k_RR_readRule_154 hh.1 (i32s (by omega) (by omega)) (fun v e => ⟨⟨hh, ff, gg.2.2.2.2.2.2.2.2.2.2, ?_⟩, a9, e9, ?_⟩)
    · by_cases q : x = 1
      · obtain ⟨e1, e2⟩ := h1 q
        rw [if_pos q] at e
        rw [e1, e2] at gg
        exact Or.inr ⟨e, H, L, a', gg, haa⟩
      · rw [if_neg q] at e
        exact Or.inl ⟨e, gg.ref⟩
    · by_cases q : x = 1
      · rw [if_pos q] at e
        exact Or.inr ⟨e, hD q⟩
      · rw [if_neg q] at e
        rcases cs with cs | cs | cs
        · exact Or.inl ⟨e, cs.2⟩
        · exact absurd cs.1 (by omega)
        · exact absurd cs.1 q
  -- the rule that is over
  have D0 : x = 1 → rlD u r p O P s a9 (fst9 (uF u) (fl (ruW u) (uE u) (uP u) 0 (ruI u) a9)) M := fun q => by
    rcases cs with cs | cs | cs
    · exact absurd (q.symm.trans cs.1) (by decide)
    · exact absurd (q.symm.trans cs.1) (by decide)
    · obtain ⟨-, c, c', L', l1', l2', l3', l4', l5'⟩ := cs
      obtain ⟨o1, o2, o3, o4, o5, o6⟩ := l4'.over l3' l5'
      exact ⟨L', l1', o1.le l2' (by decide), o2, o3, o4, o5, o6⟩
  have D1 : ∀ {ft : Int × Int}, rlD u r p O P s a9 ft M → rlD u r p O P s a9 (fst9 ft (0, 0)) M := fun {ft} q => by
    obtain ⟨L', q1, q2, q3, q4, q5⟩ := q
    exact ⟨L', q1, q2, q3, q4.none, q5⟩
  refine k_RR_readRule_37 h.1 i1 i2 (i32s (by omega) (by omega)) (i32s (by omega) (by omega)) i5 ⟨fun _ => ⟨fun y => fin h f g ea9 (fun q => ?_), fun y => ⟨k0, (x_RR_isTruth h gt).mono (fun x26 M25 q => ?_)⟩⟩, fun y => absurd (Or.inr (by omega)) y⟩
  · have l0 : l1 = 0 := by
      rcases y with y | y
      · exact absurd q y
      · exact y
    have ek : kfv u l1 a9 = (0, 0) := if_pos (Or.inl l0)
    rw [ek]
    exact D1 (D0 q)
  obtain ⟨e25, hx26, ex26⟩ := q
  subst e25
  have x1 : x = 1 := Classical.byContradiction (fun q => y (Or.inl q))
  have l10 : l1 ≠ 0 := fun q => y (Or.inr q)
  have D := D0 x1
  have ekd : x26 = kdq (ruW u) (uE u) 0 (ruI u) a9 := by obtain ⟨L', q1, q2, q3, -⟩ := D; rw [ex26, q3]
  have i26 : i32 x26 := by rcases hx26 with q | q <;> rw [q] <;> exact ⟨by decide, by decide⟩
  refine ⟨i26, h.1, fun v29 e29 => ⟨fun q => fin h f g ea9 (fun _ => ?_), fun q => ⟨k0, (x_RR_note (i32s (by omega) (by omega)) (i32s (by omega) (by omega)) h).mono (fun M22 q2 => ?_)⟩⟩⟩
  · have ek : kfv u l1 a9 = (0, 0) := if_pos (Or.inr (by rw [← ekd, q, e29]))
    rw [ek]
    exact D1 D
  obtain ⟨h22, f22, r22, t22, t22', F9⟩ := q2
  have n22 : ∀ b, b ≠ r → mI M22 b = mI M25 b := fun b hb => f22.2.2.2.2.2.2 b hb
  obtain ⟨oO, oP, op, -⟩ := h.off
  have F22 : FI (rdS r p O P) M25 M22 := f22.mono (fun b q => Or.inl (by have q' : b = r := q; omega))
  have g22 := g.cg (M' := M22) (a' := a') (by rw [r22 2 (by decide) (by decide)]; exact g.1.1) (Nat.le_refl _) g.2.2.1.1 (r22 12 (by decide) (by decide)) (r22 7 (by decide) (by decide)) (r22 14 (by decide) (by decide)) (r22 5 (by decide) (by decide)) (fun i i1 i5 => n22 (r + i) (by omega)) (by rw [n22 p (by omega)]) (n22 O (by omega)) (n22 P (by omega))
  have rf : rrF M25 r p O P s M22 := ⟨F22, fun i _ i3 i4 _ _ _ _ => r22 i i3 i4, t22', fun i i6 i9 => n22 (r + i) (by omega), fun i _ => by rw [n22 p (by omega)], fun i _ => ⟨by rw [n22 O (by omega)], by rw [n22 P (by omega)]⟩⟩
  refine ⟨h22.1, fin h22 (f.trans rf) g22 (by rw [r22 2 (by decide) (by decide)]; exact ea9) (fun _ => ?_)⟩
  have ek : kfv u l1 a9 = (3, uP u (ruI u)) := if_neg (fun q3 => by
    rcases q3 with q3 | q3
    · exact l10 q3
    · rw [← ekd, ← e29] at q3
      exact q q3)
  rw [ek, ← e3]
  obtain ⟨L', d1, d2, d3, d4, d5, d6, d7⟩ := D
  exact ⟨L', by rw [n22 p (by omega)]; exact d1, d2, by rw [n22 (r + 5) (by omega)]; exact d3, F9 (by decide) _ d4, by rw [n22 O (by omega), n22 P (by omega)]; exact d5, by rw [r22 5 (by decide) (by decide)]; exact d6, d7⟩
/-- negations are grouped -/
theorem x_rr68 {l1 l2 l3 x l5 : Int} {Q : Int → mM → Prop} (i1 : i32 l1) (i2 : i32 l2) (i3 : i32 l3) (i4 : i32 x) (i5 : i32 l5) (nx : ∀ (M : mM) (H : Nat → Nat) (L k : Nat) (wt : Int), RB M z r w T A B D N C n p O P K → rrF M0 r p O P s M → RG M r p O P n s V F ns d0 H L k a' wt → (x = 1 → k = 0 ∧ wt = 0) → rtV u r p O P s b x M → Hid (wt = 0 → 0 < k → mI M (r + 1) (k - 1) ≠ 40) → h_RR_readRule_37 G (d + 1) r l1 l2 l3 x (l5 + (-1)) M Q) : ∀ (k : Nat) (M : mM) (H : Nat → Nat) (L : Nat) (wt : Int), RB M z r w T A B D N C n p O P K → rrF M0 r p O P s M → RG M r p O P n s V F ns d0 H L k a' wt → (x = 1 → k = 0 ∧ wt = 0) → rtV u r p O P s b x M → h_RR_readRule_68 G (d + 1) r l1 l2 l3 x l5 M Q := by
  intro k
  induction k with
  | zero =>
    intro M H L wt h f g h1 v
    have g2 := g.1.2.1
    exact k_RR_readRule_68 h.1 i1 i2 i3 i4 i5 ⟨h.2.1.1, fun _ y => absurd y (by omega), fun _ => nx M H L 0 wt h f g h1 v (fun _ q => absurd q (by omega)), fun y => absurd (Or.inr (Or.inl (by omega))) y⟩
  | succ k ih =>
    intro M H L wt h f g h1 v
    have g2 := g.1.2.1
    have g7 := g.1.2.2.1
    have rm := g.room
    obtain ⟨-, ⟨k0, ⟨q8, -⟩, ⟨kk1, -⟩, ⟨nn1, -⟩⟩, -⟩ := id h
    refine k_RR_readRule_68 h.1 i1 i2 i3 i4 i5 ?_
    rw [g2, q8, nn1, show (((k + 1 : Nat) : Int) - 1).toNat = k by omega, g7]
    refine ⟨k0, fun _ _ => ⟨kk1, by omega⟩, fun y => nx M H L (k + 1) wt h f g h1 v (fun w0 _ => ?_), fun y => ⟨⟨by omega, by omega⟩, fun M66 e66 => ?_⟩⟩
    · rw [show k + 1 - 1 = k by omega]
      rcases y with y | y | y
      · exact absurd w0 y
      · exact absurd y (by omega)
      · exact y
    have w0 : wt = 0 := Classical.byContradiction (fun q => y (Or.inl q))
    have o40 : mI M (r + 1) k = 40 := Classical.byContradiction (fun q => y (Or.inr (Or.inr q)))
    subst w0
    refine (x_RR_group g h (by rw [o40]; exact Or.inr (Or.inl rfl)) e66).mono (fun M68 q => ?_)
    obtain ⟨qg, qe⟩ := q
    have fq := f.trans (g_rrF qg)
    obtain ⟨q1, -, -, -, -, -, -, -, H', L', g', -⟩ := qg
    refine ⟨q1.1, ih M68 H' L' 0 q1 fq g' (fun q => by have := (h1 q).1; omega) ?_⟩
    obtain ⟨a9, ea9, cs⟩ := v
    have e9 : a9 = a' := by rw [g.1.1] at ea9; exact (Int.ofNat_inj.mp ea9).symm
    subst e9
    refine ⟨a9, g'.1.1, ?_⟩
    rcases cs with cs | ⟨c1, c2, c3⟩ | cs
    · exact Or.inl cs
    · refine Or.inr (Or.inl ⟨c1, c2, fun L9 hL9 => ⟨fun _ => ?_, fun q => absurd (g'.1.2.2.1.symm.trans q) (by decide)⟩⟩)
      have v0 := (c3 L g.1.2.2.2).1 g7
      have hm : lwx (ruW u a9) ≤ 0 ∨ rsq 40 < lwx (ruW u a9) := by
        have : rsq 40 = 0 := by decide
        omega
      exact v0.grp (o := 40) g o40 (Or.inr (Or.inl rfl)) (Nat.zero_le _) hm (fun q => absurd q (by decide)) qe hL9
    · exact absurd (h1 cs.1).1 (by omega)
theorem x_rr37 {l1 l2 l3 : Int} (i1 : i32 l1) (i2 : i32 l2) (b3 : 0 ≤ l3 ∧ l3 ≤ 16384) (e3 : l3 = uP u (ruI u)) (hask : Hid ((l2 = 0 → uQ u = 5) ∧ (l2 ≠ 0 → uQ u = 6))) (hz : Hid (∀ j, lwx (ruW u j) = 3 → Rf (ruW u) (uZ u) j j)) : ∀ (t : Nat) (M : mM) (H : Nat → Nat) (L k : Nat) (wt : Int) (a' : Nat), t ≤ 20000 → a ≤ a' → n + 1 ≤ t + a' → RB M z r w T A B D N C n p O P K → rrF M0 r p O P s M → RG M r p O P n s V F ns d0 H L k a' wt → NK M r A n V F ns c → UQ u M r T A B D n c → RWx u M r p O P s a' → Hid (wt = 0 → 0 < k → mI M (r + 1) (k - 1) ≠ 40) → h_RR_readRule_37 G (d + 3) r l1 l2 l3 0 t M (rleX u M0 z r w T A B D N C n p O P K s V F ns d0 a l1) := by
  intro t
  induction t with
  | zero =>
    intro M H L k wt a' ht haa hta h f g nk
    have := g.2.2.1.1
    omega
  | succ t ih =>
    intro M H L k wt a' ht haa hta h f g nk uq vx hn
    have g7 := g.1.2.2.1
    have gw := g.2.1
    have it : i32 ((t + 1 : Nat) : Int) := i32s (by omega) (by omega)
    have go : ∀ {x : Int} {M1 : mM}, rtX u M z r w T A B D N C n p O P K s V F ns d0 a' x M1 → i32 x ∧ mOk M1 ∧ h_RR_readRule_68 G (d + 3) r l1 l2 l3 x ((t + 1 : Nat) : Int) M1 (rleX u M0 z r w T A B D N C n p O P K s V F ns d0 a l1) := fun {x M1} q => by
      obtain ⟨⟨q1, q2, q3, H', L', k', wt', a2, g', q4, q5⟩, qv⟩ := q
      have ix : i32 x := i32s (by omega) (by omega)
      refine ⟨ix, q1.1, x_rr68 (M0 := M) (b := a') i1 i2 (i32s (by omega) (by omega)) ix it (fun M2 H2 L2 k2 wt2 h2 f2 g2 e2 v2 n2 => ?_) k' M1 H' L' wt' q1 q2 g' q5 qv⟩
      rw [show ((t + 1 : Nat) : Int) + (-1) = (t : Int) by omega]
      by_cases y : x = 0
      · subst y
        obtain ⟨a9, ea9, cs⟩ := v2
        have e9 : a9 = a2 := by rw [g2.1.1] at ea9; exact (Int.ofNat_inj.mp ea9).symm
        subst e9
        rcases cs with cs | ⟨-, c2, c3⟩ | cs
        · exact absurd cs.1 (by decide)
        · exact ih M2 H2 L2 k2 wt2 a9 (by omega) (by omega) (by omega) h2 (f.trans f2) g2 (nk.rr h f2) (uq.rr h f2) c3 n2
        · exact absurd cs.1 (by decide)
      · exact x_rr_end i1 i2 b3 e3 (i32s (by omega) (by omega)) (by omega) h2 (f.trans f2) g2 (by omega) e2 v2
    refine k_RR_readRule_37 h.1 i1 i2 (i32s (by omega) (by omega)) (i32s (by omega) (by omega)) it ⟨fun y => absurd y (by omega), fun _ => ⟨h.2.1.1, fun y => ?_, fun y => ?_⟩⟩
    · have w0 : wt = 0 := by omega
      subst w0
      exact (x_RR_takeOperator i2 h g uq.1 hask hz ((show _ → _ from hn) rfl) ((vx L g.1.2.2.2).1 g7)).mono (fun x M1 q => go q)
    · have w1 : wt = 1 := by omega
      subst w1
      exact (x_RR_takeOperand h g nk uq ((vx L g.1.2.2.2).2 g7)).mono (fun x M1 q => go q)
/-- a whole rule -/
theorem x_RR_readRule {l1 l2 : Int} (i1 : i32 l1) (i2 : i32 l2) (h : RB M z r w T A B D N C n p O P K) (ha : mI M r 2 = a) (han : a ≤ n) (hs : mI M p 2 = s) (hsa : s ≤ a) (hd : mI M r 5 = d0) (hd4 : d0 ≤ 40) (ht : ∀ j, mI M (r + 5) j = 0 ∨ mI M (r + 5) j = 1) (nk : NK M r A n V F ns c) (uq : UQ u M r T A B D n c) (hI : ruI u = a) (hF : FT M r (uF u)) (hD : mI M r 5 = slv (uZ u)) (hask : Hid ((l2 = 0 → uQ u = 5) ∧ (l2 ≠ 0 → uQ u = 6))) (hz : Hid (∀ j, lwx (ruW u j) = 3 → Rf (ruW u) (uZ u) j j)) (hR : Rc (ruW u) (uS u) (uK u) (gyW (uZ u) (uQ u) []) a) : Ci G y_RR_readRule (d + 4) [vr r, vi l1, vi l2] M (rleX u M z r w T A B D N C n p O P K s V F ns d0 a l1) := by
  have hnN := h.2.2.2.1.2.2.1
  have hN := h.2.2.2.1.1.2.2.2.2.2.2.1
  refine k_RR_readRule h.1 i1 i2 ⟨h.2.1.1, (s_RR_here h ha han).mono (fun x3 M2 q => ?_)⟩
  obtain ⟨e2, ex3, x0, x1⟩ := q
  subst e2
  refine ⟨i32s (by omega) (by omega), h.1, h.2.1.1, fun M6 e6 M8 e8 M10 e10 => ?_⟩
  obtain ⟨h6, f6, r6, n6⟩ := rb_fld h (v := 0) (i32s (by omega) (by omega)) e6
  obtain ⟨h8, f8, r8, n8⟩ := rb_fld h6 (v := 0) (i32s (by omega) (by omega)) e8
  obtain ⟨h10, f10, r10, n10⟩ := rb_fld h8 (v := 1) (i32s (by omega) (by omega)) e10
  have R : ∀ i, mI M10 r i = if i = 7 then 1 else if i = 14 then 0 else if i = 12 then 0 else mI M2 r i := fun i => by rw [r10, r8, r6]
  have Nn : ∀ b, b ≠ r → mI M10 b = mI M2 b := fun b hb => by rw [n10 b hb, n8 b hb, n6 b hb]
  obtain ⟨oO, oP, op, -⟩ := h.off
  have rf : rrF M2 r p O P s M10 := ⟨(f6.trans f8).trans f10, fun i _ _ _ _ i7 i12 i14 => by rw [R, if_neg i7, if_neg i14, if_neg i12], fun _ => by rw [R, if_neg (by decide), if_neg (by decide), if_neg (by decide)], fun i i6 i9 => Nn (r + i) (by omega), fun i _ => by rw [Nn p (by omega)], fun i _ => ⟨by rw [Nn O (by omega)], by rw [Nn P (by omega)]⟩⟩
  have g : RG M10 r p O P n s V F ns d0 (fun _ => 0) s 0 a 1 := by
    refine ⟨⟨by rw [R, if_neg (by decide), if_neg (by decide), if_neg (by decide)]; exact ha, by rw [R, if_neg (by decide), if_neg (by decide), if_pos rfl]; rfl, by rw [R, if_pos rfl], by rw [Nn p (by omega)]; exact hs⟩, Or.inr rfl, ⟨han, Nat.le_refl _⟩, by rw [R, if_neg (by decide), if_pos rfl]; rfl, ⟨by rw [R, if_neg (by decide), if_neg (by decide), if_neg (by decide)]; exact hd, hd4⟩, fun i hi => absurd hi (by omega), fun i hi => absurd hi (by omega), ⟨rfl, by show 0 + s ≤ s; omega⟩, fun pc h0 h1 => absurd h0 (by omega), hsa, fun j => by rw [Nn (r + 5) (by omega)]; exact ht j⟩
  have q56 : 5 ≤ uQ u ∧ uQ u ≤ 6 := by
    obtain ⟨q1, q2⟩ := (show _ ∧ _ from hask)
    by_cases y : l2 = 0
    · have := q1 y; omega
    · have := q2 y; omega
  have v1 : RW1 u M10 r O P s s a := ⟨[], [], [], [], uF u, ⟨⟨trivial, trivial, trivial, trivial, trivial⟩, ⟨by rw [R, if_neg (by decide), if_neg (by decide), if_pos rfl]; rfl, by rw [R, if_neg (by decide), if_pos rfl]; rfl⟩, ⟨rfl, rfl⟩, hF.same (by rw [R, if_neg (by decide), if_neg (by decide), if_neg (by decide)]) (by rw [R, if_neg (by decide), if_neg (by decide), if_neg (by decide)]), ⟨q56, trivial⟩, by rw [R, if_neg (by decide), if_neg (by decide), if_neg (by decide), hD]; show _ = slv (uZ u) + ((0 : Nat) : Int); omega⟩, ⟨rfl, rfl, rfl, rfl, rfl⟩, hI, hR⟩
  have vx : RWx u M10 r p O P s a := fun L' hL' => ⟨fun q => absurd (g.1.2.2.1.symm.trans q) (by decide), fun _ => by
    have : L' = s := by rw [g.1.2.2.2] at hL'; exact (Int.ofNat_inj.mp hL').symm
    rw [this]; exact v1⟩
  have e3 : x3 = uP u (ruI u) := by rw [ex3, hI]; exact (uq.1 a han).2.2
  obtain ⟨-, -, ⟨r0, -⟩, hW, -⟩ := id h10
  have w2 := hW.2.1
  have wk := hW.1.1
  rw [r0, w2, g.1.1, show ((n + 1 : Int)) - (a : Int) = ((n + 1 - a : Nat) : Int) by omega]
  exact ⟨wk, x_rr37 i1 i2 ⟨x0, x1⟩ e3 hask hz (n + 1 - a) M10 (fun _ => 0) s 0 1 a (by omega) (Nat.le_refl _) (by omega) h10 rf g (nk.rr h rf) (uq.rr h rf) vx (fun q => absurd q (by decide))⟩
end RXE
