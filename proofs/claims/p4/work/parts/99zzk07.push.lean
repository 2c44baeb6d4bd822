/-! The class's reader of rules: push, mayDeny, takeValue, takeLevel. -/
section RRP
variable {G : mG} {d z r w T A B D N C n p O P K k a s L V F d0 : Nat} {M M' M1 M2 : mM} {H H' : Nat → Nat} {ns : Nat → Int} {wt : Int}
theorem s_RR_push {o pl od : Int} (ho : i32 o) (hpl : i32 pl) (hod : i32 od) (h : RB M z r w T A B D N C n p O P K) (hk : mI M r 12 = k) (hk3 : k < 336) (ha : mI M r 2 = a) (ha2 : a ≤ 16384) : Cv G y_RR_push d [vr r, vi o, vi pl, vi od] M (fun M' => RB M' z r w T A B D N C n p O P K ∧ FI (fun b => r ≤ b ∧ b ≤ r + 4) M M' ∧ (∀ i, mI M' r i = if i = 2 then (a : Int) + 1 else if i = 7 then 1 else if i = 12 then (k : Int) + 1 else mI M r i) ∧ (∀ i, mI M' (r + 1) i = if i = k then o else mI M (r + 1) i) ∧ (∀ i, mI M' (r + 2) i = if i = k then pl else mI M (r + 2) i) ∧ (∀ i, mI M' (r + 3) i = if i = k then od else mI M (r + 3) i) ∧ (∀ i, mI M' (r + 4) i = if i = k then 0 else mI M (r + 4) i)) := by
  have q8 : ∀ {Mx : mM}, RB Mx z r w T A B D N C n p O P K → (mR Mx r 8 = r + 1 ∧ mR Mx r 9 = r + 2 ∧ mR Mx r 10 = r + 3 ∧ mR Mx r 11 = r + 4) ∧ (mK Mx (r + 1) = 30 ∧ mK Mx (r + 2) = 30 ∧ mK Mx (r + 3) = 30 ∧ mK Mx (r + 4) = 30) ∧ (mN Mx (r + 1) = 336 ∧ mN Mx (r + 2) = 336 ∧ mN Mx (r + 3) = 336 ∧ mN Mx (r + 4) = 336) := fun hx => by
    obtain ⟨-, ⟨-, ⟨a1, a2, a3, a4, -⟩, ⟨b1, b2, b3, b4, -⟩, ⟨c1, c2, c3, c4, -⟩⟩, -⟩ := hx
    exact ⟨⟨a1, a2, a3, a4⟩, ⟨b1, b2, b3, b4⟩, ⟨c1, c2, c3, c4⟩⟩
  refine k_RR_push h.1 ho hpl hod ⟨h.2.1.1, fun y => absurd y (by omega), fun _ => ?_⟩
  rw [(q8 h).1.1, hk, Int.toNat_natCast, (q8 h).2.2.1]
  refine ⟨(q8 h).2.1.1, by omega, fun M16 e16 => ?_⟩
  obtain ⟨h16, f16, g16, u16⟩ := rb_tab h (i := 1) (by omega) (by omega) ho e16
  rw [(q8 h16).1.2.1, u16 r (by omega), hk, Int.toNat_natCast, (q8 h16).2.2.2.1]
  refine ⟨(q8 h16).2.1.2.1, by omega, fun M20 e20 => ?_⟩
  obtain ⟨h20, f20, g20, u20⟩ := rb_tab h16 (i := 2) (by omega) (by omega) hpl e20
  rw [(q8 h20).1.2.2.1, u20 r (by omega), u16 r (by omega), hk, Int.toNat_natCast, (q8 h20).2.2.2.2.1]
  refine ⟨(q8 h20).2.1.2.2.1, by omega, fun M24 e24 => ?_⟩
  obtain ⟨h24, f24, g24, u24⟩ := rb_tab h20 (i := 3) (by omega) (by omega) hod e24
  rw [(q8 h24).1.2.2.2, u24 r (by omega), u20 r (by omega), u16 r (by omega), hk, Int.toNat_natCast, (q8 h24).2.2.2.2.2]
  refine ⟨(q8 h24).2.1.2.2.2, by omega, fun M28 e28 => ?_⟩
  obtain ⟨h28, f28, g28, u28⟩ := rb_tab h24 (i := 4) (by omega) (by omega) (v := 0) (i32s (by omega) (by omega)) e28
  have r28 : mI M28 r = mI M r := by rw [u28 r (by omega), u24 r (by omega), u20 r (by omega), u16 r (by omega)]
  rw [r28, hk]
  refine ⟨⟨by omega, by omega⟩, fun M31 e31 M33 e33 => ?_⟩
  obtain ⟨h31, f31, g31, u31⟩ := rb_fld h28 ⟨by omega, by omega⟩ e31
  obtain ⟨h33, f33, g33, u33⟩ := rb_fld h31 (v := 1) (i32s (by omega) (by omega)) e33
  have e2 : mI M33 r 2 = a := by rw [g33, if_neg (by decide), g31, if_neg (by decide), r28, ha]
  rw [e2]
  refine ⟨⟨by omega, by omega⟩, fun M36 e36 => ?_⟩
  obtain ⟨h36, f36, g36, u36⟩ := rb_fld h33 ⟨by omega, by omega⟩ e36
  have fi : FI (fun b => r ≤ b ∧ b ≤ r + 4) M M36 := by
    have x16 : FI (fun b => r ≤ b ∧ b ≤ r + 4) M M16 := by rw [e16]; exact FI.ui ⟨by omega, by omega⟩
    have x20 : FI (fun b => r ≤ b ∧ b ≤ r + 4) M16 M20 := by rw [e20]; exact FI.ui ⟨by omega, by omega⟩
    have x24 : FI (fun b => r ≤ b ∧ b ≤ r + 4) M20 M24 := by rw [e24]; exact FI.ui ⟨by omega, by omega⟩
    have x28 : FI (fun b => r ≤ b ∧ b ≤ r + 4) M24 M28 := by rw [e28]; exact FI.ui ⟨by omega, by omega⟩
    have x31 : FI (fun b => r ≤ b ∧ b ≤ r + 4) M28 M31 := by rw [e31]; exact FI.ui ⟨by omega, by omega⟩
    have x33 : FI (fun b => r ≤ b ∧ b ≤ r + 4) M31 M33 := by rw [e33]; exact FI.ui ⟨by omega, by omega⟩
    have x36 : FI (fun b => r ≤ b ∧ b ≤ r + 4) M33 M36 := by rw [e36]; exact FI.ui ⟨by omega, by omega⟩
    exact (((((x16.trans x20).trans x24).trans x28).trans x31).trans x33).trans x36
  refine ⟨h36, fi, fun i => ?_, fun i => ?_, fun i => ?_, fun i => ?_, fun i => ?_⟩
  · rw [g36]
    by_cases y2 : i = 2
    · rw [if_pos y2, if_pos y2]
    · rw [if_neg y2, if_neg y2, g33]
      by_cases y7 : i = 7
      · rw [if_pos y7, if_pos y7]
      · rw [if_neg y7, if_neg y7, g31, r28]
  · rw [u36 _ (by omega), u33 _ (by omega), u31 _ (by omega), u28 _ (by omega), u24 _ (by omega), u20 _ (by omega), g16]
  · rw [u36 _ (by omega), u33 _ (by omega), u31 _ (by omega), u28 _ (by omega), u24 _ (by omega), g20, u16 _ (by omega)]
  · rw [u36 _ (by omega), u33 _ (by omega), u31 _ (by omega), u28 _ (by omega), g24, u20 _ (by omega), u16 _ (by omega)]
  · rw [u36 _ (by omega), u33 _ (by omega), u31 _ (by omega), g28, u24 _ (by omega), u20 _ (by omega), u16 _ (by omega)]
/-- the orders lie apart from the reader -/
theorem RB.off (h : RB M z r w T A B D N C n p O P K) : (O < r ∨ r + 9 < O) ∧ (P < r ∨ r + 9 < P) ∧ (p < r ∨ r + 9 < p) ∧ O ≠ p ∧ P ≠ p ∧ O ≠ P := by
  obtain ⟨-, -, -, -, ⟨-, -, -, ⟨a1, a2, a3, a4⟩, -⟩, ⟨s1, s2, -⟩, -⟩ := h
  refine ⟨?_, ?_, ?_, ?_, ?_, a3⟩ <;> omega
/-- an open operation keeps what it keeps -/
theorem enO.cg {L' i : Nat} (h : enO M r O s L H i) (h1 : ∀ j, j ≤ i → mI M' (r + 1) j = mI M (r + 1) j) (h2 : mI M' (r + 2) i = mI M (r + 2) i) (h3 : mI M' (r + 3) i = mI M (r + 3) i) (h4 : ∀ j, j ≤ i → mI M' (r + 4) j = mI M (r + 4) j) (hL : L ≤ L') (hO : ∀ j, j < L → mI M' O j = mI M O j) (hH : ∀ j, j ≤ L → H' j = H j) : enO M' r O s L' H' i := by
  obtain ⟨a1, a2, a3, a4, a5, a6, a7⟩ := h
  have b := (sums_cg (M := M) (M' := M') (r := r) (k := i) (fun j hj => h1 j (by omega)) (fun j hj => h4 j (by omega)) i (Nat.le_refl _)).1
  unfold enO
  rw [h1 i (Nat.le_refl _), h2, h3, h4 i (Nat.le_refl _), b]
  refine ⟨a1, a2, a3, a4, fun q => ?_, a6, fun q j hj => by rw [h1 j (by omega)]; exact a7 (by rw [h1 i (Nat.le_refl _)] at q; exact q) j hj⟩
  obtain ⟨t, t1, t2, t3, t4, t5, t6⟩ := a5 q
  exact ⟨t, t1, t2, by omega, by rw [hO t t3]; exact t4, by rw [hH t (by omega)]; exact t5, fun y => by rw [hH (t + 1) (by omega)]; exact t6 y⟩
theorem pdg_cg {k' pc : Nat} (h : pdg M r k pc) (hk : k ≤ k') (h1 : ∀ j, j < k → mI M' (r + 1) j = mI M (r + 1) j) (h3 : ∀ j, j < k → mI M' (r + 3) j = mI M (r + 3) j) : pdg M' r k' pc := by
  obtain ⟨i, i1, i2, i3⟩ := h
  exact ⟨i, by omega, by rw [h3 i i1]; exact i2, by rw [h1 i i1]; exact i3⟩
/-- what a step of the reader comes to: 0 it goes on, 1 the rule is over, 2 refused -/
def rsQ (M : mM) (z r w T A B D N C n p O P K s V F : Nat) (ns : Nat → Int) (d0 L a : Nat) (x : Int) (M' : mM) : Prop := (x = 0 ∨ x = 1 ∨ x = 2) ∧ RB M' z r w T A B D N C n p O P K ∧ FI (rdS r p O P) M M' ∧ (∀ i, i ≠ 2 → i ≠ 3 → i ≠ 4 → i ≠ 5 → i ≠ 7 → i ≠ 12 → i ≠ 14 → mI M' r i = mI M r i) ∧ (mI M r 3 ≠ 0 → mI M' r 3 = mI M r 3) ∧ (∀ i, 6 ≤ i → i ≤ 9 → mI M' (r + i) = mI M (r + i)) ∧ (∀ i, i ≠ 2 → mI M' p i = mI M p i) ∧ (∀ i, i < L → mI M' O i = mI M O i)
theorem s_RR_takeValue {o x t : Int} (ho : i32 o) (hx : i32 x) (ht : t = 0 ∨ t = 1) (h : RB M z r w T A B D N C n p O P K) (g : RG M r p O P n s V F ns d0 H L k a 1) (han : a < n) (hs : ∀ H' : Nat → Nat, H' (L + 1) = H' L + 1 → stO V F ns H' L o x) (hj : ¬ jm o) : Ci G y_RR_takeValue (d + 1) [vr r, vi o, vi x, vi t] M (fun y M' => y = 0 ∧ RB M' z r w T A B D N C n p O P K ∧ FI (rdS r p O P) M M' ∧ (∀ i, i ≠ 2 → i ≠ 7 → i ≠ 14 → mI M' r i = mI M r i) ∧ (∀ i, 6 ≤ i → i ≤ 9 → mI M' (r + i) = mI M (r + i)) ∧ (∀ i, i ≠ 2 → mI M' p i = mI M p i) ∧ (∀ i, i ≠ L → mI M' O i = mI M O i ∧ mI M' P i = mI M P i) ∧ ∃ H', RG M' r p O P n s V F ns d0 H' (L + 1) k (a + 1) 0 ∧ ∀ i, i ≤ L → H' i = H i) := by
  have rm := g.room
  obtain ⟨oO, oP, op, e1, e2, e3⟩ := h.off
  have hW := h.2.2.2.1
  have hwN := hW.2.2.1
  have hN := hW.1.2.2.2.2.2.2.1
  obtain ⟨⟨g1, g2, g3, g4⟩, gw, ⟨ga, gs⟩, gc, ⟨gd, gd4⟩, gr, ge, ⟨gH, gHs⟩, gC, gL, gt⟩ := g
  have hPK := h.2.2.2.2.1
  have hK := h.2.2.2.2.2.2
  refine k_RR_takeValue h.1 ho hx (i32s (by omega) (by omega)) ?_
  rw [h.2.2.1.2]
  refine ⟨h.2.1.1, hPK.1, (s_Pr_add ho hx h.1 hPK g4 (by omega)).mono (fun y M3 q => ?_)⟩
  obtain ⟨ey, o3, f3, p3, q3, u3⟩ := q
  have f3' : FI (rdS r p O P) M M3 := f3.mono (fun b q => Or.inr q)
  have h3 := h.fi o3 f3'
  have nr : ∀ b, r ≤ b → b ≤ r + 9 → mI M3 b = mI M b := fun b b1 b2 => f3.2.2.2.2.2.2 b (fun q => by
    have q' : b = p ∨ b = O ∨ b = P := q
    omega)
  refine ⟨⟨by omega, by omega⟩, o3, h3.2.1.1, (s_RR_pushKind (c := uw 1 + skk M r k) ht h3 (by rw [nr r (by omega) (by omega)]; exact gc) (by omega)).mono (fun M7 q => ?_)⟩
  obtain ⟨h7, f7, r7, t7⟩ := q
  have nr7 : ∀ b, b ≠ r → b ≠ r + 5 → mI M7 b = mI M3 b := fun b b1 b2 => f7.2.2.2.2.2.2 b (fun q => by
    have q' : b = r ∨ b = r + 5 := q
    omega)
  refine ⟨h7.1, h7.2.1.1, fun M11 e11 => ?_⟩
  obtain ⟨h11, f11, r11, n11⟩ := rb_fld h7 (v := 0) (i32s (by omega) (by omega)) e11
  have a11 : mI M11 r 2 = a := by rw [r11, if_neg (by decide), r7, if_neg (by decide), nr r (by omega) (by omega), g1]
  rw [a11]
  refine ⟨⟨by omega, by omega⟩, fun M14 e14 => ?_⟩
  obtain ⟨h14, f14, r14, n14⟩ := rb_fld h11 ⟨by omega, by omega⟩ e14
  have R14 : ∀ i, mI M14 r i = if i = 2 then (a : Int) + 1 else if i = 7 then 0 else if i = 14 then ((uw 1 + skk M r k : Nat) : Int) + 1 else mI M r i := fun i => by
    rw [r14]
    by_cases y2 : i = 2
    · rw [if_pos y2, if_pos y2]
    · rw [if_neg y2, if_neg y2, r11]
      by_cases y7 : i = 7
      · rw [if_pos y7, if_pos y7]
      · rw [if_neg y7, if_neg y7, r7, nr r (by omega) (by omega)]
  have X14 : ∀ b, b ≠ r → b ≠ r + 5 → mI M14 b = mI M3 b := fun b b1 b2 => by rw [n14 b b1, n11 b b1, nr7 b b1 b2]
  have T14 : ∀ i, 1 ≤ i → i ≤ 9 → i ≠ 5 → mI M14 (r + i) = mI M (r + i) := fun i i1 i9 i5 => by rw [X14 (r + i) (by omega) (by omega), nr (r + i) (by omega) (by omega)]
  have f57 : FI (rdS r p O P) M3 M7 := f7.mono (fun b q => Or.inl (by have q' : b = r ∨ b = r + 5 := q; omega))
  have fi : FI (rdS r p O P) M M14 := ((f3'.trans f57).trans f11).trans f14
  refine ⟨rfl, h14, fi, fun i i2 i7 i14 => by rw [R14, if_neg i2, if_neg i7, if_neg i14], fun i i6 i9 => T14 i (by omega) i9 (by omega), fun i i2 => by rw [X14 p (by omega) (by omega), p3, if_neg i2], fun i iL => ⟨by rw [X14 O (by omega) (by omega), q3, if_neg iL], by rw [X14 P (by omega) (by omega), u3, if_neg iL]⟩, ?_⟩
  obtain ⟨H', hH'⟩ : ∃ H' : Nat → Nat, ∀ i, H' i = if i = L + 1 then H L + 1 else H i := ⟨fun i => if i = L + 1 then H L + 1 else H i, fun _ => rfl⟩
  have hHs : ∀ i, i ≤ L → H' i = H i := fun i hi => by rw [hH', if_neg (by omega)]
  have hHL : H' (L + 1) = H' L + 1 := by rw [hH', if_pos rfl, hHs L (Nat.le_refl _)]
  have sm := fun i hi => sums_cg (M := M) (M' := M14) (r := r) (k := k) (fun j _ => by rw [T14 1 (by omega) (by omega) (by omega)]) (fun j _ => by rw [T14 4 (by omega) (by omega) (by omega)]) i hi
  have u1 : uw 1 = 0 := rfl
  have u0 : uw 0 = 1 := rfl
  refine ⟨H', ⟨⟨by rw [R14, if_pos rfl]; omega, by rw [R14, if_neg (by decide), if_neg (by decide), if_neg (by decide)]; exact g2, by rw [R14, if_neg (by decide), if_pos rfl], by rw [X14 p (by omega) (by omega), p3, if_pos rfl]; omega⟩, Or.inl rfl, ⟨by omega, by omega⟩, by rw [R14, if_neg (by decide), if_neg (by decide), if_pos rfl, (sm k (Nat.le_refl _)).2.1]; omega, ⟨by rw [R14, if_neg (by decide), if_neg (by decide), if_neg (by decide), (sm k (Nat.le_refl _)).2.2.2]; exact gd, by rw [(sm k (Nat.le_refl _)).2.2.2]; exact gd4⟩, fun i hi => by rw [(sm (i + 1) (by omega)).2.2.2, T14 1 (by omega) (by omega) (by omega)]; exact gr i hi, fun i hi => ?_, ⟨?_, ?_⟩, ?_, by rw [(sm k (Nat.le_refl _)).2.2.1]; omega, fun j => ?_⟩, hHs⟩
  · exact (ge i hi).cg (fun j _ => by rw [T14 1 (by omega) (by omega) (by omega)]) (by rw [T14 2 (by omega) (by omega) (by omega)]) (by rw [T14 3 (by omega) (by omega) (by omega)]) (fun j _ => by rw [T14 4 (by omega) (by omega) (by omega)]) (by omega) (fun j hj => by rw [X14 O (by omega) (by omega), q3, if_neg (by omega)]) hHs
  · rw [hHL, hHs L (Nat.le_refl _), gH, (sm k (Nat.le_refl _)).1]
    omega
  · rw [hHL, hHs L (Nat.le_refl _)]
    omega
  · exact gC.add gs hHs gHs (fun i => by rw [X14 O (by omega) (by omega), q3]) (fun i => by rw [X14 P (by omega) (by omega), u3]) (fun i _ q => pdg_cg q (Nat.le_refl _) (fun j _ => by rw [T14 1 (by omega) (by omega) (by omega)]) (fun j _ => by rw [T14 3 (by omega) (by omega) (by omega)])) (hs H' hHL) (fun q => absurd q hj)
  · rw [n14 (r + 5) (by omega), n11 (r + 5) (by omega), t7, nr (r + 5) (by omega) (by omega)]
    split
    · exact ht
    · exact gt j
end RRP
