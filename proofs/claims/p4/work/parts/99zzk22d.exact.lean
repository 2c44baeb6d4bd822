/-! The class's reader: small steps, exactly. -/
/-- an operation is put on the pile -/
def pshE (M : mM) (r k : Nat) (o pl od mq dep kk : Int) (M' : mM) : Prop := (mI M' r 12 = (k : Int) + 1 ∧ mI M' r 5 = dep ∧ mI M' r 3 = mI M r 3 ∧ mI M' r 4 = mI M r 4 ∧ mI M' r 14 = kk) ∧ (∀ i, mI M' (r + 1) i = if i = k then o else mI M (r + 1) i) ∧ (∀ i, mI M' (r + 2) i = if i = k then pl else mI M (r + 2) i) ∧ (∀ i, mI M' (r + 3) i = if i = k then od else mI M (r + 3) i) ∧ (∀ i, mI M' (r + 4) i = if i = k then mq else mI M (r + 4) i) ∧ mI M' (r + 5) = mI M (r + 5)
section RX1
variable {G : mG} {d z r w T A B D N C n p O P K k a s L V F d0 c : Nat} {M0 M M' M1 M2 M110 M126 M133 : mM} {H H' : Nat → Nat} {ns : Nat → Int} {wt : Int}

theorem x_RR_note {x y : Int} (hx : i32 x) (hy : i32 y) (h : RB M z r w T A B D N C n p O P K) : Cv G y_RR_note d [vr r, vi x, vi y] M (fun M' => RB M' z r w T A B D N C n p O P K ∧ FI (fun b => b = r) M M' ∧ (∀ i, i ≠ 3 → i ≠ 4 → mI M' r i = mI M r i) ∧ (mI M r 3 = 0 → mI M' r 3 = x) ∧ (mI M r 3 ≠ 0 → mI M' r 3 = mI M r 3) ∧ (x ≠ 0 → Fqq M r (x, y) M')) := by
  refine k_RR_note h.1 hx hy ⟨h.2.1.1, fun e M5 e5 M7 e7 => ?_, fun e => ⟨h, FI.refl, fun _ _ _ => rfl, fun q => absurd q e, fun _ => rfl, fun x0 => Fq_note x0 (fun q => absurd q e) (fun _ => ⟨rfl, rfl⟩)⟩⟩
  obtain ⟨h5, -, g5, -⟩ := rb_fld h hx e5
  obtain ⟨h7, -, g7, -⟩ := rb_fld h5 hy e7
  have f5 : FI (fun b => b = r) M M5 := by rw [e5]; exact FI.ui rfl
  have f7 : FI (fun b => b = r) M5 M7 := by rw [e7]; exact FI.ui rfl
  exact ⟨h7, f5.trans f7, fun i i3 i4 => by rw [g7, if_neg i4, g5, if_neg i3], fun _ => by rw [g7, if_neg (by decide), g5, if_pos rfl], fun q => absurd e q, fun x0 => Fq_note x0 (fun _ => ⟨by rw [g7, if_neg (by decide), g5, if_pos rfl], by rw [g7, if_pos rfl]⟩) (fun q => absurd e q)⟩

theorem x_RR_popKind {c : Nat} (h : RB M z r w T A B D N C n p O P K) (hc : mI M r 14 = ((c + 1 : Nat) : Int)) (h3 : c < 336) : Ci G y_RR_popKind d [vr r] M (fun v M' => ((v = 0 ∨ v = 1) ∧ ((mI M (r + 5) c = 0 ∨ mI M (r + 5) c = 1) → v = mI M (r + 5) c)) ∧ RB M' z r w T A B D N C n p O P K ∧ FI (fun b => b = r) M M' ∧ (∀ i, mI M' r i = if i = 14 then (c : Int) else mI M r i)) := by
  obtain ⟨hO, hK, -⟩ := id h
  obtain ⟨k0, ⟨-, -, -, -, q13, -⟩, ⟨-, -, -, -, k5, -⟩, ⟨-, -, -, -, n5, -⟩⟩ := id hK
  refine k_RR_popKind hO ⟨k0, fun y => ?_, fun v e M9 e9 => ?_⟩
  · have o' : mOk (mUI M r 14 ((mI M r 14) - 1)) := mOk_UI hO ⟨by omega, by omega⟩
    refine ⟨⟨by omega, by omega⟩, ?_⟩
    rw [q13, mK_UI, mN_UI, n5]
    exact ⟨k5, by omega, (o' _ _).1⟩
  · rw [if_neg (by omega), hc, show ((c + 1 : Nat) : Int) - 1 = (c : Int) by omega] at e9
    rw [q13, hc, show ((c + 1 : Nat) : Int) - 1 = (c : Int) by omega, Int.toNat_natCast] at e
    have ev : mI (mUI M r 14 (c : Int)) (r + 5) c = mI M (r + 5) c := by rw [mI_UI, if_neg (by omega)]
    rw [ev] at e
    obtain ⟨h9, -, g9, -⟩ := rb_fld h ⟨by omega, by omega⟩ e9
    refine ⟨h9.1, ⟨by rw [e]; split <;> omega, fun q => by rw [e]; split <;> omega⟩, h9, by rw [e9]; exact FI.ui rfl, g9⟩

theorem x_RR_takeValue {o x t : Int} (ho : i32 o) (hx : i32 x) (ht : t = 0 ∨ t = 1) (h : RB M z r w T A B D N C n p O P K) (g : RG M r p O P n s V F ns d0 H L k a 1) (han : a < n) (hs : ∀ H' : Nat → Nat, H' (L + 1) = H' L + 1 → stO V F ns H' L o x) (hj : ¬ jm o) : Ci G y_RR_takeValue (d + 1) [vr r, vi o, vi x, vi t] M (fun y M' => ((∀ i, 1 ≤ i → i ≤ 4 → mI M' (r + i) = mI M (r + i)) ∧ mI M' r 14 = mI M r 14 + 1 ∧ (∀ (c : Nat), mI M r 14 = c → ∀ i, mI M' (r + 5) i = if i = c then t else mI M (r + 5) i) ∧ (∀ i, mI M' O i = if i = L then o else mI M O i) ∧ (∀ i, mI M' P i = if i = L then x else mI M P i)) ∧ y = 0 ∧ RB M' z r w T A B D N C n p O P K ∧ FI (rdS r p O P) M M' ∧ (∀ i, i ≠ 2 → i ≠ 7 → i ≠ 14 → mI M' r i = mI M r i) ∧ (∀ i, 6 ≤ i → i ≤ 9 → mI M' (r + i) = mI M (r + i)) ∧ (∀ i, i ≠ 2 → mI M' p i = mI M p i) ∧ (∀ i, i ≠ L → mI M' O i = mI M O i ∧ mI M' P i = mI M P i) ∧ ∃ H', RG M' r p O P n s V F ns d0 H' (L + 1) k (a + 1) 0 ∧ ∀ i, i ≤ L → H' i = H i) := by
  have rm := g.room
  obtain ⟨oO, oP, op, e1, e2, e3⟩ := h.off
  have hW := h.2.2.2.1
  have hwN := hW.2.2.1
  have hN := hW.1.2.2.2.2.2.2.1
  obtain ⟨⟨g1, g2, g3, g4⟩, gw, ⟨ga, gs⟩, gc, ⟨gd, gd4⟩, gr, ge, ⟨gH, gHs⟩, gC, gL, gt⟩ := g
  have hPK := h.2.2.2.2.1
  have hK := h.2.2.2.2.2.2
  refine k_RR_takeValue h.1 ho hx (i32s (by omega) (by omega)) ?_
  rw [h.2.2.1.2]
  refine ⟨h.2.1.1, hPK.1, (s_Pr_add ho hx h.1 hPK g4 (by omega)).mono (fun y M3 q => ?_)⟩
  obtain ⟨ey, o3, f3, p3, q3, u3⟩ := q
  have f3' : FI (rdS r p O P) M M3 := f3.mono (fun b q => Or.inr q)
  have h3 := h.fi o3 f3'
  have nr : ∀ b, r ≤ b → b ≤ r + 9 → mI M3 b = mI M b := fun b b1 b2 => f3.2.2.2.2.2.2 b (fun q => by
    have q' : b = p ∨ b = O ∨ b = P := q
    omega)
  refine ⟨⟨by omega, by omega⟩, o3, h3.2.1.1, (s_RR_pushKind (c := uw 1 + skk M r k) ht h3 (by rw [nr r (by omega) (by omega)]; exact gc) (by omega)).mono (fun M7 q => ?_)⟩
  obtain ⟨h7, f7, r7, t7⟩ := q
  have nr7 : ∀ b, b ≠ r → b ≠ r + 5 → mI M7 b = mI M3 b := fun b b1 b2 => f7.2.2.2.2.2.2 b (fun q => by
    have q' : b = r ∨ b = r + 5 := q
    omega)
  refine ⟨h7.1, h7.2.1.1, fun M11 e11 => ?_⟩
  obtain ⟨h11, f11, r11, n11⟩ := rb_fld h7 (v := 0) (i32s (by omega) (by omega)) e11
  have a11 : mI M11 r 2 = a := by rw [r11, if_neg (by decide), r7, if_neg (by decide), nr r (by omega) (by omega), g1]
  rw [a11]
  refine ⟨⟨by omega, by omega⟩, fun M14 e14 => ?_⟩
  obtain ⟨h14, f14, r14, n14⟩ := rb_fld h11 ⟨by omega, by omega⟩ e14
  have R14 : ∀ i, mI M14 r i = if i = 2 then (a : Int) + 1 else if i = 7 then 0 else if i = 14 then ((uw 1 + skk M r k : Nat) : Int) + 1 else mI M r i := fun i => by
    rw [r14]
    by_cases y2 : i = 2
    · rw [if_pos y2, if_pos y2]
    · rw [if_neg y2, if_neg y2, r11]
      by_cases y7 : i = 7
      · rw [if_pos y7, if_pos y7]
      · rw [if_neg y7, if_neg y7, r7, nr r (by omega) (by omega)]
  have X14 : ∀ b, b ≠ r → b ≠ r + 5 → mI M14 b = mI M3 b := fun b b1 b2 => by rw [n14 b b1, n11 b b1, nr7 b b1 b2]
  have T14 : ∀ i, 1 ≤ i → i ≤ 9 → i ≠ 5 → mI M14 (r + i) = mI M (r + i) := fun i i1 i9 i5 => by rw [X14 (r + i) (by omega) (by omega), nr (r + i) (by omega) (by omega)]
  have f57 : FI (rdS r p O P) M3 M7 := f7.mono (fun b q => Or.inl (by have q' : b = r ∨ b = r + 5 := q; omega))
  have fi : FI (rdS r p O P) M M14 := ((f3'.trans f57).trans f11).trans f14
  refine ⟨⟨fun i i1 i4 => T14 i i1 (by omega) (by omega), by rw [R14, if_neg (by decide), if_neg (by decide), if_pos rfl, gc], fun c9 hc9 i => by rw [n14 (r + 5) (by omega), n11 (r + 5) (by omega), t7, nr (r + 5) (by omega) (by omega), show c9 = uw 1 + skk M r k by omega], fun i => by rw [X14 O (by omega) (by omega), q3], fun i => by rw [X14 P (by omega) (by omega), u3]⟩, rfl, h14, fi, fun i i2 i7 i14 => by rw [R14, if_neg i2, if_neg i7, if_neg i14], fun i i6 i9 => T14 i (by omega) i9 (by omega), fun i i2 => by rw [X14 p (by omega) (by omega), p3, if_neg i2], fun i iL => ⟨by rw [X14 O (by omega) (by omega), q3, if_neg iL], by rw [X14 P (by omega) (by omega), u3, if_neg iL]⟩, ?_⟩
  obtain ⟨H', hH'⟩ : ∃ H' : Nat → Nat, ∀ i, H' i = if i = L + 1 then H L + 1 else H i := ⟨fun i => if i = L + 1 then H L + 1 else H i, fun _ => rfl⟩
  have hHs : ∀ i, i ≤ L → H' i = H i := fun i hi => by rw [hH', if_neg (by omega)]
  have hHL : H' (L + 1) = H' L + 1 := by rw [hH', if_pos rfl, hHs L (Nat.le_refl _)]
  have sm := fun i hi => sums_cg (M := M) (M' := M14) (r := r) (k := k) (fun j _ => by rw [T14 1 (by omega) (by omega) (by omega)]) (fun j _ => by rw [T14 4 (by omega) (by omega) (by omega)]) i hi
  have u1 : uw 1 = 0 := rfl
  have u0 : uw 0 = 1 := rfl
  refine ⟨H', ⟨⟨by rw [R14, if_pos rfl]; omega, by rw [R14, if_neg (by decide), if_neg (by decide), if_neg (by decide)]; exact g2, by rw [R14, if_neg (by decide), if_pos rfl], by rw [X14 p (by omega) (by omega), p3, if_pos rfl]; omega⟩, Or.inl rfl, ⟨by omega, by omega⟩, by rw [R14, if_neg (by decide), if_neg (by decide), if_pos rfl, (sm k (Nat.le_refl _)).2.1]; omega, ⟨by rw [R14, if_neg (by decide), if_neg (by decide), if_neg (by decide), (sm k (Nat.le_refl _)).2.2.2]; exact gd, by rw [(sm k (Nat.le_refl _)).2.2.2]; exact gd4⟩, fun i hi => by rw [(sm (i + 1) (by omega)).2.2.2, T14 1 (by omega) (by omega) (by omega)]; exact gr i hi, fun i hi => ?_, ⟨?_, ?_⟩, ?_, by rw [(sm k (Nat.le_refl _)).2.2.1]; omega, fun j => ?_⟩, hHs⟩
  · exact (ge i hi).cg (fun j _ => by rw [T14 1 (by omega) (by omega) (by omega)]) (by rw [T14 2 (by omega) (by omega) (by omega)]) (by rw [T14 3 (by omega) (by omega) (by omega)]) (fun j _ => by rw [T14 4 (by omega) (by omega) (by omega)]) (by omega) (fun j hj => by rw [X14 O (by omega) (by omega), q3, if_neg (by omega)]) hHs
  · rw [hHL, hHs L (Nat.le_refl _), gH, (sm k (Nat.le_refl _)).1]
    omega
  · rw [hHL, hHs L (Nat.le_refl _)]
    omega
  · exact gC.add gs hHs gHs (fun i => by rw [X14 O (by omega) (by omega), q3]) (fun i => by rw [X14 P (by omega) (by omega), u3]) (fun i _ q => pdg_cg q (Nat.le_refl _) (fun j _ => by rw [T14 1 (by omega) (by omega) (by omega)]) (fun j _ => by rw [T14 3 (by omega) (by omega) (by omega)])) (hs H' hHL) (fun q => absurd q hj)
  · rw [n14 (r + 5) (by omega), n11 (r + 5) (by omega), t7, nr (r + 5) (by omega) (by omega)]
    split
    · exact ht
    · exact gt j

theorem x_RR_mayDeny (h : RB M z r w T A B D N C n p O P K) (hk : mI M r 12 = k) (hk3 : k ≤ 336) : Ci G y_RR_mayDeny (d + 1) [vr r] M (fun x M' => M' = M ∧ (x = 0 ∨ x = 1) ∧ (x ≠ 0 ↔ myd M r)) := by
  obtain ⟨-, ⟨k0, ⟨q8, -⟩, ⟨k1, -⟩, ⟨n1, -⟩⟩, -⟩ := id h
  refine k_RR_mayDeny h.1 ⟨k0, fun y => ⟨rfl, Or.inr rfl, fun _ => Or.inl y, fun _ => by omega⟩, fun y => ?_⟩
  rw [q8, n1]
  refine ⟨k1, by omega, (s_RR_level (h.1 _ _).1 h.1).mono (fun x M2 q => ?_)⟩
  obtain ⟨e2, ex⟩ := q
  subst e2
  have ek : ((mI M2 r 12) - 1).toNat = k - 1 := by omega
  rw [ek] at ex ⊢
  have := lvl_b (mI M2 (r + 1) (k - 1))
  have key : myd M2 r ↔ (lvl (mI M2 (r + 1) (k - 1)) < 4 ∧ mI M2 (r + 1) (k - 1) ≠ 40) := by
    constructor
    · intro q
      rcases q with q | ⟨j, j1, j2, j3⟩
      · exact absurd q y
      · have : j = k - 1 := by omega
        rw [this] at j2 j3
        exact ⟨j2, j3⟩
    · intro q
      exact Or.inr ⟨k - 1, by omega, q.1, q.2⟩
  rw [key]
  refine ⟨i32s (by omega) (by omega), h.1, fun v e => ⟨rfl, by rw [e]; split <;> omega, ?_⟩⟩
  rw [e]
  split
  · exact ⟨fun q => absurd rfl q, fun q => by omega⟩
  · exact ⟨fun _ => by omega, fun _ => by omega⟩
theorem x_RR_takeLevel {o pl : Int} (h : RB M z r w T A B D N C n p O P K) (g : RG M r p O P n s V F ns d0 H L k a 1) (ho : o = 37 ∨ o = 40 ∨ o = 41 ∨ o = 15 ∨ o = 16) (hpl : 0 ≤ pl ∧ pl ≤ 16384) (han : a < n) : Ci G y_RR_takeLevel (d + 1) [vr r, vi o, vi pl] M (fun x M' => lvQ M z r w T A B D N C n p O P K s V F ns d0 H L k a x M' ∧ ((x = 2 ∧ ¬ mI M r 5 < 40) ∨ (x = 0 ∧ mI M r 5 < 40 ∧ pshE M r k o pl (-1) 0 (mI M r 5 + 1) (mI M r 14) M'))) := by
  have rm := g.room
  obtain ⟨oO, oP, op, e1, e2, e3⟩ := h.off
  have hwN := h.2.2.2.1.2.2.1
  have hN := h.2.2.2.1.1.2.2.2.2.2.2.1
  obtain ⟨⟨g1, g2, g3, g4⟩, -, -, -, ⟨gd, gd4⟩, -⟩ := id g
  refine k_RR_takeLevel h.1 (i32s (by omega) (by omega)) (i32s (by omega) (by omega)) ⟨h.2.1.1, fun y => ⟨⟨by omega, by omega⟩, fun M5 e5 => ?_⟩, fun y => ⟨⟨h, FI.refl, fun _ _ _ _ _ => rfl, fun _ _ _ => rfl, ⟨rfl, rfl, rfl⟩, Or.inl ⟨rfl, rfl⟩⟩, Or.inl ⟨rfl, by omega⟩⟩⟩
  obtain ⟨h5, f5, r5, n5⟩ := rb_fld h ⟨by omega, by omega⟩ e5
  refine (s_RR_push (k := k) (a := a) (i32s (by omega) (by omega)) (i32s (by omega) (by omega)) (i32s (by omega) (by omega)) h5 (by rw [r5, if_neg (by decide)]; exact g2) (by omega) (by rw [r5, if_neg (by decide)]; exact g1) (by omega)).mono (fun M7 q => ?_)
  obtain ⟨h7, f7, r7, t1, t2, t3, t4⟩ := q
  have o7 : ∀ b, (b < r ∨ r + 4 < b) → mI M7 b = mI M b := fun b hb => by
    rw [f7.2.2.2.2.2.2 b (fun q => by have q' : r ≤ b ∧ b ≤ r + 4 := q; omega), n5 b (by omega)]
  have R7 : ∀ i, mI M7 r i = if i = 2 then (a : Int) + 1 else if i = 7 then 1 else if i = 12 then (k : Int) + 1 else if i = 5 then ((d0 + sdp M r k + 1 : Nat) : Int) else mI M r i := fun i => by
    rw [r7, r5]
    by_cases y5 : i = 5
    · subst y5
      rw [if_neg (by decide), if_neg (by decide), if_neg (by decide), if_pos rfl, if_neg (by decide), if_neg (by decide), if_neg (by decide), if_pos rfl, gd]
      omega
    · rw [if_neg y5, if_neg y5]
  have cd : cdp o = 1 := by unfold cdp; split <;> omega
  have f57 : FI (rdS r p O P) M5 M7 := f7.mono (fun b q => Or.inl (by have q' : r ≤ b ∧ b ≤ r + 4 := q; omega))
  have s7 : ∀ i, i ≠ 2 → i ≠ 5 → i ≠ 7 → i ≠ 12 → mI M7 r i = mI M r i := fun i i2 i5 i7 i12 => by rw [R7, if_neg i2, if_neg i7, if_neg i12, if_neg i5]
  refine ⟨h7.1, ⟨h7, f5.trans f57, fun i i2 i5 i7 i12 => by rw [R7, if_neg i2, if_neg i7, if_neg i12, if_neg i5], fun i i5 i9 => o7 (r + i) (by omega), ⟨o7 p (by omega), o7 O (by omega), o7 P (by omega)⟩, Or.inr ⟨rfl, ?_⟩⟩, Or.inr ⟨rfl, by omega, ⟨by rw [R7, if_neg (by decide), if_neg (by decide), if_pos rfl], by rw [R7, if_neg (by decide), if_neg (by decide), if_neg (by decide), if_pos rfl, gd]; omega, s7 3 (by decide) (by decide) (by decide) (by decide), s7 4 (by decide) (by decide) (by decide) (by decide), s7 14 (by decide) (by decide) (by decide) (by decide)⟩, fun i => by rw [t1, n5 (r + 1) (by omega)], fun i => by rw [t2, n5 (r + 2) (by omega)], fun i => by rw [t3, n5 (r + 3) (by omega)], fun i => by rw [t4, n5 (r + 4) (by omega)], o7 _ (by omega)⟩⟩
  exact g.psh (o := o) (pl := pl) (dd := d0 + sdp M r k + 1) R7 (fun i => by rw [t1, n5 (r + 1) (by omega)]) (fun i => by rw [t2, n5 (r + 2) (by omega)]) (fun i => by rw [t3, n5 (r + 3) (by omega)]) (fun i => by rw [t4, n5 (r + 4) (by omega)]) (o7 _ (by omega)) (o7 p (by omega)) (o7 O (by omega)) (o7 P (by omega)) (by unfold opn; omega) (by unfold jm; omega) hpl (by rw [cd]) (by omega) (g.lvl (Or.inl cd)) (by show 0 = ckk o; unfold ckk; split <;> omega) (by show 0 = cm o 0; unfold cm; (repeat' split) <;> omega) han

end RX1
