section
variable {G : mG} {d z r w T A B D N C n p O P K k a s L V F d0 c : Nat} {M0 M M' M1 M2 M110 M126 M133 : mM} {H H' : Nat → Nat} {ns : Nat → Int} {wt : Int} {u : Ru} {c9 c8 L1 : Nat} {H1 : Nat → Nat}
theorem x_ci201 {l5 : Int} (g : RG M r p O P n s V F ns d0 H L (k + 1) a 0) (h0 : RB M z r w T A B D N C n p O P K) (han : a < n) (ho : mI M (r + 1) k = 15 ∨ mI M (r + 1) k = 16) (hl : liA M z r w T A B D N C n p O P K s V F ns H L k a H1 L1 M1) (h5 : l5 = 0 ∨ l5 = 1) (v : RW0 u M r O P s c9 c8 L a) (hw0 : Hid (l5 = 0 → ruW u a = 37)) (hw1 : Hid (l5 = 1 → ruW u a = 35)) (hc9 : c9 ≤ 6) (hA0 : Hid (mI M (r + 4) k = 0 → L1 = L ∧ mI M1 O = mI M O ∧ mI M1 P = mI M P)) (hA1 : Hid (mI M (r + 4) k ≠ 0 → L1 = L + 1 ∧ (∀ i, mI M1 O i = if i = L then mI M (r + 1) k else mI M O i) ∧ (∀ i, mI M1 P i = if i = L then mI M (r + 2) k else mI M P i))) : h_RR_closeInner_201 G d r k 1 l5 M1 (fun x M' => cliQ M z r w T A B D N C n p O P K s V F ns d0 L a x M' ∧ clV u r p O P s a x M') := by
  have rm := g.room
  have hwN := h0.2.2.2.1.2.2.1
  have hN := h0.2.2.2.1.1.2.2.2.2.2.2.1
  obtain ⟨oO, oP, op, e1, e2, e3⟩ := h0.off
  obtain ⟨b1, b2, b3, b4⟩ := sum_top M r k
  have cd : cdp (mI M (r + 1) k) = 1 := by unfold cdp; rw [if_pos (ho_d ho)]
  have ck : ckk (mI M (r + 1) k) = 0 := by unfold ckk; rw [if_neg (ho_k ho)]
  have ce : cee (mI M (r + 1) k) = 0 := by unfold cee; rw [if_neg (ho_e ho)]
  have nj : ¬ jm (mI M (r + 1) k) := ho_j ho
  rw [cd] at b4
  rw [ck] at b2
  have u0 : uw 0 = 1 := rfl
  obtain ⟨⟨g1, g2, g3, g4⟩, -, ⟨-, gs⟩, gc, ⟨gd, gd4⟩, -, ge, -, -, -, gt⟩ := id g
  have kk14 : mI M r 14 = ((skk M r k : Nat) : Int) + 1 := by rw [gc, b2, u0]; omega
  have m023 : Hid (mI M (r + 4) k = 0 ∨ mI M (r + 4) k = 2 ∨ mI M (r + 4) k = 3) := v.m15 (k := k) hc9 (by rw [g2]; rfl) rfl ho
  obtain ⟨en1, en2, en3, en4, -, en6, -⟩ := ge k (by omega)
  obtain ⟨h1, f1, t1, p1, q1, L01, H01, HL1, Hs1, C1, se1⟩ := hl
  have m3 := en4 ho
  have pdk : ∀ {Mx : mM} {kk i : Nat}, (∀ j, j < k → mI Mx (r + 1) j = mI M (r + 1) j ∧ mI Mx (r + 3) j = mI M (r + 3) j) → k ≤ kk → pdg M r (k + 1) i → pdg Mx r kk i := fun {Mx kk i} hx hk q => by
    obtain ⟨j, j1, j2, j3⟩ := q
    have jk : j ≠ k := fun y => nj (by rw [← y]; exact j3)
    exact ⟨j, by omega, by rw [(hx j (by omega)).2]; exact j2, by rw [(hx j (by omega)).1]; exact j3⟩
  have pl : ∀ {Mx : mM}, RB Mx z r w T A B D N C n p O P K → (mR Mx r 9 = r + 2 ∧ mR Mx r 11 = r + 4) ∧ (mK Mx (r + 2) = 30 ∧ mK Mx (r + 4) = 30) ∧ (mN Mx (r + 2) = 336 ∧ mN Mx (r + 4) = 336) := fun hx => by
    obtain ⟨-, ⟨-, ⟨a1, a2, a3, a4, -⟩, ⟨b1, b2, b3, b4, -⟩, ⟨c1, c2, c3, c4, -⟩⟩, -⟩ := hx
    exact ⟨⟨a2, a4⟩, ⟨b2, b4⟩, c2, c4⟩
  refine k_RR_closeInner_201 h1.1 ⟨by omega, by omega⟩ (i32s (by omega) (by omega)) (i32s (by omega) (by omega)) ?_
  rw [(pl h1).1.2, (pl h1).2.2.2, Int.toNat_natCast, t1 (r + 4) (by omega) (by omega)]
  refine ⟨h1.2.1.1, (pl h1).2.1.2, by omega, (x_RR_popKind (c := skk M r k) h1 (by rw [t1 r (by omega) (by omega), gc, b2]; omega) (by omega)).mono (fun x145 M144 q => ?_)⟩
  obtain ⟨⟨hx, hx2⟩, h144, f144, r144⟩ := q
  rw [t1 (r + 5) (by omega) (by omega)] at hx2
  have hx3 := hx2 (gt _)
  clear hx2
  have n144 : ∀ b, b ≠ r → mI M144 b = mI M1 b := fun b hb => f144.2.2.2.2.2.2 b hb
  have f144' : FI (rdS r p O P) M1 M144 := f144.mono (fun b q => Or.inl ⟨by omega, by omega⟩)
  refine ⟨i32s (by omega) (by omega), h144.1, fun v148 e148 => ⟨(pl h144).2.1.2, by rw [(pl h144).2.2.2]; omega, fun M155 e155 => ?_⟩⟩
  have b148 : v148 = 0 ∨ v148 = 1 := by rw [e148]; split <;> omega
  have mo := mk_or (m := mI M (r + 4) k) ⟨en3.1, m3⟩ b148
  have m3x : Hid (orI (mI M (r + 4) k) (orI 2 v148) = (if mI M (r + 4) k = 3 ∨ mI M (r + 5) (skk M r k) = 1 then 3 else 2) ∧ (andI (orI (mI M (r + 4) k) (orI 2 v148)) 1 = 0 ↔ ¬ (mI M (r + 4) k = 3 ∨ mI M (r + 5) (skk M r k) = 1))) := or_3 (v := v148) m023 (gt (skk M r k)) (by rw [← hx3]; exact e148)
  generalize hmm : orI (mI M (r + 4) k) (orI 2 v148) = mm at *
  obtain ⟨h155, f155, g155, n155⟩ := rb_tab h144 (i := 4) (by omega) (by omega) (i32s (by omega) (by omega)) e155
  have F155 : FI (rdS r p O P) M M155 := (f1.trans f144').trans f155
  have r155 : ∀ i, mI M155 r i = if i = 14 then ((skk M r k : Nat) : Int) else mI M r i := fun i => by rw [n155 r (by omega), r144, t1 r (by omega) (by omega)]
  have t155 : ∀ i, 1 ≤ i → i ≤ 9 → i ≠ 4 → mI M155 (r + i) = mI M (r + i) := fun i i1 i9 i4 => by rw [n155 (r + i) (by omega), n144 (r + i) (by omega), t1 (r + i) (by omega) (by omega)]
  have x4 : ∀ j, mI M155 (r + 4) j = if j = k then mm else mI M (r + 4) j := fun j => by rw [g155, n144 (r + 4) (by omega), t1 (r + 4) (by omega) (by omega)]
  have o155 : ∀ b, (b < r ∨ r + 9 < b) → mI M155 b = mI M1 b := fun b hb => by rw [n155 b (by omega), n144 b (by omega)]
  rcases h5 with y5 | y5
  · -- ')'
    subst y5
    have fin : ∀ {My : mM}, gI M155 z r w T A B D N C n p O P K (k + 1) (skk M r k) My → mI My (r + 5) = mI M (r + 5) → Fqq M r (kft (¬ (mI M (r + 4) k = 3 ∨ mI M (r + 5) (skk M r k) = 1)) (mI M (r + 2) k)) My → h_RR_closeInner_256 G d r 0 My (fun x M' => cliQ M z r w T A B D N C n p O P K s V F ns d0 L a x M' ∧ clV u r p O P s a x M') := fun {My} hy hy5 hyF => by
      obtain ⟨hb, fb, rb, ⟨rb12, rb14⟩, rb3, nb, tb⟩ := hy
      refine k_RR_closeInner_256 hb.1 (i32s (by omega) (by omega)) ⟨hb.2.1.1, (s_RR_pushKind (Or.inl rfl) hb rb14 (by omega)).mono (fun M189 q => ?_)⟩
      obtain ⟨h189, f189, r189, t189⟩ := q
      have n189 : ∀ b, b ≠ r → b ≠ r + 5 → mI M189 b = mI My b := fun b y1 y2 => f189.2.2.2.2.2.2 b (fun q => by have q' : b = r ∨ b = r + 5 := q; first | exact rin5 q' | exact nin5 (by assumption) (by assumption) q' | omega)
      refine ⟨h189.1, fun _ => ?_, fun y => absurd rfl y⟩
      refine s_ciPop (a := a) (k := k) (e := d0 + sdp M r k) h189 (by rw [r189, if_neg (by decide), rb 2 (by decide) (by decide) (by decide) (by decide), r155, if_neg (by decide)]; exact g1) (by omega) (by rw [r189, if_neg (by decide)]; exact rb12) (by omega) (by rw [r189, if_neg (by decide), rb 5 (by decide) (by decide) (by decide) (by decide), r155, if_neg (by decide), gd, b4]; rfl) (by omega) (fun M' h' f' g' n' => ?_)
      have X : ∀ b, b ≠ r → b ≠ r + 5 → mI M' b = mI M155 b := fun b y1 y2 => by rw [n' b y1, n189 b y1 y2, nb b y1 y2]
      have TT : ∀ i, 1 ≤ i → i ≤ 9 → i ≠ 4 → i ≠ 5 → mI M' (r + i) = mI M (r + i) := fun i i1 i9 i4 i5 => by rw [X (r + i) (by omega) (by omega), t155 i i1 i9 i4]
      have xO : mI M' O = mI M1 O := by rw [X O (by first | exact oO | exact off0 oO | exact off9 oO (by decide) | exact off4 oO | exact e1 | exact e3 | omega) (by first | exact oO | exact off0 oO | exact off9 oO (by decide) | exact off4 oO | exact e1 | exact e3 | omega), o155 O (by first | exact oO | exact off0 oO | exact off9 oO (by decide) | exact off4 oO | exact e1 | exact e3 | omega)]
      have xP : mI M' P = mI M1 P := by rw [X P (by first | exact oP | exact off0 oP | exact off9 oP (by decide) | exact off4 oP | exact e2 | exact fun q => e3 q.symm | omega) (by first | exact oP | exact off0 oP | exact off9 oP (by decide) | exact off4 oP | exact e2 | exact fun q => e3 q.symm | omega), o155 P (by first | exact oP | exact off0 oP | exact off9 oP (by decide) | exact off4 oP | exact e2 | exact fun q => e3 q.symm | omega)]
      have xp : mI M' p = mI M1 p := by rw [X p (by first | exact op | exact off0 op | exact off9 op (by decide) | exact off4 op | exact fun q => e1 q.symm | exact fun q => e2 q.symm | omega) (by first | exact op | exact off0 op | exact off9 op (by decide) | exact off4 op | exact fun q => e1 q.symm | exact fun q => e2 q.symm | omega), o155 p (by first | exact op | exact off0 op | exact off9 op (by decide) | exact off4 op | exact fun q => e1 q.symm | exact fun q => e2 q.symm | omega)]
      have RR : ∀ i, i ≠ 2 → i ≠ 7 → i ≠ 5 → i ≠ 12 → i ≠ 14 → mI M' r i = mI My r i := fun i i2 i7 i5 i12 i14 => by rw [g', if_neg i2, if_neg i7, if_neg i5, if_neg i12, r189, if_neg i14]
      refine ⟨⟨h', ((F155.trans fb).trans (f189.mono (fun b q => Or.inl (by have q' : b = r ∨ b = r + 5 := q; first | exact rin5 q' | exact nin5 (by assumption) (by assumption) q' | omega)))).trans f', fun i i2 i3 i4 i5 i7 i12 i14 => by rw [RR i i2 i7 i5 i12 i14, rb i i3 i4 i12 i14, r155, if_neg i14], fun q => ?_, fun i i6 i9 => TT i (by omega) i9 (by omega) (by omega), fun i i2 => by rw [xp, p1, if_neg i2], fun i hi => ⟨by rw [xO]; exact (q1 i (by omega)).1, by rw [xP]; exact (q1 i (by omega)).2⟩, Or.inr ⟨rfl, H1, L1, k, 0, ?_, L01⟩⟩, Or.inr ⟨rfl, fun L9 hL9 => ⟨fun _ => ?_, fun q => absurd q (by rw [g', if_neg (by decide), if_pos rfl]; decide)⟩⟩⟩
      · have e3' : mI M155 r 3 = mI M r 3 := by rw [r155, if_neg (by decide)]
        rw [RR 3 (by decide) (by decide) (by decide) (by decide) (by decide), rb3 (by rw [e3']; exact q), e3']
      · refine g.popc ⟨by rw [g', if_pos rfl], by rw [g', if_neg (by decide), if_neg (by decide), if_neg (by decide), if_pos rfl], by rw [g', if_neg (by decide), if_pos rfl], by rw [g', if_neg (by decide), if_neg (by decide), if_neg (by decide), if_neg (by decide), r189, if_pos rfl]; omega, by rw [g', if_neg (by decide), if_neg (by decide), if_pos rfl]⟩ (fun j _ => by rw [TT 1 (by omega) (by omega) (by omega) (by omega)]) (fun j _ => by rw [TT 2 (by omega) (by omega) (by omega) (by omega)]) (fun j _ => by rw [TT 3 (by omega) (by omega) (by omega) (by omega)]) (fun j hj => by rw [X (r + 4) (by omega) (by omega), x4, if_neg (by omega)]) (fun j => ?_) (by rw [xp, p1, if_pos rfl]) L01 (fun j hj => by rw [xO]; exact (q1 j hj).1) H01 HL1 Hs1 (fun pc p0 pL => ?_) se1 han
        · rw [n' (r + 5) (by omega), t189]
          split
          · exact Or.inl rfl
          · exact tb j
        · rw [xO, xP]
          obtain ⟨c1, c2, c3⟩ := C1 pc p0 pL
          exact ⟨c1, fun q => (c2 q).imp (fun u => pdk (fun j _ => ⟨by rw [TT 1 (by omega) (by omega) (by omega) (by omega)], by rw [TT 3 (by omega) (by omega) (by omega) (by omega)]⟩) (Nat.le_refl _) u) (fun u => u), c3⟩
      · have e9 : L9 = L1 := by rw [xp, p1, if_pos rfl] at hL9; exact (Int.ofNat_inj.mp hL9).symm
        rw [e9]
        exact v.clos (k := k) (kk := skk M r k) (L' := L1) (hw0 rfl) hc9 (by rw [g2]; rfl) rfl ho kk14 (by rw [g', if_neg (by decide), if_neg (by decide), if_neg (by decide), if_pos rfl]) (by rw [g', if_neg (by decide), if_neg (by decide), if_pos rfl, gd, b4]; exact dcan _ _) (by rw [g', if_neg (by decide), if_neg (by decide), if_neg (by decide), if_neg (by decide), r189, if_pos rfl]) (fun i i1 i4 j hj => by
          by_cases y4 : i = 4
          · subst y4
            rw [X (r + 4) (by omega) (by omega), x4, if_neg (Nat.ne_of_lt hj)]
          · rw [TT i i1 (by omega) y4 (by omega)]) (fun i => by rw [n' (r + 5) (by omega), t189, hy5]) (hyF.later (RR 3 (by decide) (by decide) (by decide) (by decide) (by decide)) (RR 4 (by decide) (by decide) (by decide) (by decide) (by decide))) (fun q => ⟨(hA0 q).1, by rw [xO]; exact (hA0 q).2.1, by rw [xP]; exact (hA0 q).2.2⟩) (fun q => ⟨(hA1 q).1, fun i => by rw [xO]; exact (hA1 q).2.1 i, fun i => by rw [xP]; exact (hA1 q).2.2 i⟩)
    have gi : gI M155 z r w T A B D N C n p O P K (k + 1) (skk M r k) M155 := ⟨h155, FI.refl, fun _ _ _ _ _ => rfl, ⟨by rw [r155, if_neg (by decide)]; exact g2, by rw [r155, if_pos rfl]⟩, fun _ => rfl, fun _ _ _ => rfl, fun j => by rw [t155 5 (by omega) (by omega) (by omega)]; exact gt j⟩
    refine ⟨fun y => absurd y (by omega), fun _ => ?_⟩
    rw [(pl h155).1.2, (pl h155).1.1, (pl h155).2.2.2, (pl h155).2.2.1]
    have r3 : mI M155 r 3 = mI M r 3 ∧ mI M155 r 4 = mI M r 4 := ⟨by rw [r155, if_neg (by decide)], by rw [r155, if_neg (by decide)]⟩
    have z5 : mI M155 (r + 5) = mI M (r + 5) := t155 5 (by omega) (by omega) (by omega)
    have z2 : mI M155 (r + 2) = mI M (r + 2) := t155 2 (by omega) (by omega) (by omega)
    have z4 : mI M155 (r + 4) k = mm := by rw [x4, if_pos rfl]
    rw [z4, z2]
    refine ⟨h155.2.1.1, (pl h155).2.1.2, by omega, fun y => fin gi z5 ?_, fun y => ⟨(pl h155).2.1.1, by omega, ?_⟩⟩
    · have : kft (¬ (mI M (r + 4) k = 3 ∨ mI M (r + 5) (skk M r k) = 1)) (mI M (r + 2) k) = (0, 0) := if_pos ((show _ ∧ _ from m3x).2.mp y)
      rw [this]
      exact Fq_none r3.1 r3.2
    · refine (x_RR_note (i32s (by omega) (by omega)) (h0.1 _ _).1 h155).mono (fun M182 q => ?_)
      obtain ⟨b1', f1', g1', -, g3', g4'⟩ := q
      have o1 : ∀ b, b ≠ r → mI M182 b = mI M155 b := fun b hb => f1'.2.2.2.2.2.2 b hb
      obtain ⟨a1, a2, a3, ⟨a4, a5⟩, a6, a7, a8⟩ := gi
      have hI : gI M155 z r w T A B D N C n p O P K (k + 1) (skk M r k) M182 := ⟨b1', f1'.mono (fun b q => Or.inl ⟨by omega, by omega⟩), fun i i3 i4 _ _ => g1' i i3 i4, ⟨by rw [g1' 12 (by decide) (by decide)]; exact a4, by rw [g1' 14 (by decide) (by decide)]; exact a5⟩, fun q => g3' q, fun b b1 _ => o1 b b1, fun j => by rw [o1 (r + 5) (by omega)]; exact a8 j⟩
      refine ⟨b1'.1, fin hI (by rw [o1 (r + 5) (by omega)]; exact z5) ?_⟩
      have : kft (¬ (mI M (r + 4) k = 3 ∨ mI M (r + 5) (skk M r k) = 1)) (mI M (r + 2) k) = (3, mI M (r + 2) k) := if_neg (fun q => y ((show _ ∧ _ from m3x).2.mpr q))
      rw [this]
      exact (g4' (by decide)).first r3.1 r3.2
  · -- ','
    subst y5
    refine ⟨fun _ => ⟨fun y => absurd y (by omega), fun _ => ?_⟩, fun y => absurd (Or.inr (by omega)) y⟩
    refine s_ci286 (a := a) (Or.inr rfl) h155 (by rw [r155, if_neg (by decide)]; exact g1) (by omega) (fun M' h' f' g' n' => ?_)
    have TT : ∀ i, 1 ≤ i → i ≤ 9 → i ≠ 4 → mI M' (r + i) = mI M (r + i) := fun i i1 i9 i4 => by rw [n' (r + i) (by omega), t155 i i1 i9 i4]
    have xO : mI M' O = mI M1 O := by rw [n' O (by first | exact oO | exact off0 oO | exact off9 oO (by decide) | exact off4 oO | exact e1 | exact e3 | omega), o155 O (by first | exact oO | exact off0 oO | exact off9 oO (by decide) | exact off4 oO | exact e1 | exact e3 | omega)]
    have xP : mI M' P = mI M1 P := by rw [n' P (by first | exact oP | exact off0 oP | exact off9 oP (by decide) | exact off4 oP | exact e2 | exact fun q => e3 q.symm | omega), o155 P (by first | exact oP | exact off0 oP | exact off9 oP (by decide) | exact off4 oP | exact e2 | exact fun q => e3 q.symm | omega)]
    have xp : mI M' p = mI M1 p := by rw [n' p (by first | exact op | exact off0 op | exact off9 op (by decide) | exact off4 op | exact fun q => e1 q.symm | exact fun q => e2 q.symm | omega), o155 p (by first | exact op | exact off0 op | exact off9 op (by decide) | exact off4 op | exact fun q => e1 q.symm | exact fun q => e2 q.symm | omega)]
    have xr : ∀ i, mI M' r i = if i = 2 then (a : Int) + 1 else if i = 7 then 1 else if i = 14 then ((skk M r k : Nat) : Int) else mI M r i := fun i => by rw [g', r155]
    have x4' : ∀ j, mI M' (r + 4) j = if j = k then mm else mI M (r + 4) j := fun j => by rw [n' (r + 4) (by omega), x4]
    have cmm : cm (mI M (r + 1) k) mm = 1 := by unfold cm; rw [if_neg (ho_c ho), if_pos ⟨ho, mo⟩]
    refine ⟨⟨h', F155.trans f', fun i i2 i3 i4 i5 i7 i12 i14 => by rw [xr, if_neg i2, if_neg i7, if_neg i14], fun _ => by rw [xr, if_neg (by decide), if_neg (by decide), if_neg (by decide)], fun i i6 i9 => TT i (by omega) i9 (by omega), fun i i2 => by rw [xp, p1, if_neg i2], fun i hi => ⟨by rw [xO]; exact (q1 i (by omega)).1, by rw [xP]; exact (q1 i (by omega)).2⟩, Or.inr ⟨rfl, H1, L1, k + 1, 1, ?_, L01⟩⟩, Or.inr ⟨rfl, fun L9 hL9 => ⟨fun q => absurd q (by rw [xr, if_neg (by decide), if_pos rfl]; decide), fun _ => ?_⟩⟩⟩
    rotate_left
    · have e9 : L9 = L1 := by rw [xp, p1, if_pos rfl] at hL9; exact (Int.ofNat_inj.mp hL9).symm
      rw [e9]
      exact v.comma (k := k) (kk := skk M r k) (L' := L1) (hw1 rfl) hc9 (by rw [g2]; rfl) rfl ho kk14 (by rw [xr, if_neg (by decide), if_neg (by decide), if_neg (by decide), g2]; rfl) (by rw [xr, if_neg (by decide), if_neg (by decide), if_neg (by decide)]) (by rw [xr, if_neg (by decide), if_neg (by decide), if_neg (by decide)]) (by rw [xr, if_neg (by decide), if_neg (by decide), if_neg (by decide)]) (by rw [xr, if_neg (by decide), if_neg (by decide), if_pos rfl]) (fun i i1 i3 => TT i i1 (by omega) (by omega)) (fun i => by rw [x4', (show _ ∧ _ from m3x).1]) (fun i _ => by rw [TT 5 (by decide) (by decide) (by decide)]) (fun q => ⟨(hA0 q).1, by rw [xO]; exact (hA0 q).2.1, by rw [xP]; exact (hA0 q).2.2⟩) (fun q => ⟨(hA1 q).1, fun i => by rw [xO]; exact (hA1 q).2.1 i, fun i => by rw [xP]; exact (hA1 q).2.2 i⟩)
    refine g.goes (o' := mI M (r + 1) k) (m' := mm) ⟨by rw [xr, if_pos rfl], by rw [xr, if_neg (by decide), if_neg (by decide), if_neg (by decide), g2]; omega, by rw [xr, if_neg (by decide), if_pos rfl], by rw [xr, if_neg (by decide), if_neg (by decide), if_pos rfl], by rw [xr, if_neg (by decide), if_neg (by decide), if_neg (by decide)]; exact gd⟩ (fun j => ?_) (fun j => by rw [TT 2 (by omega) (by omega) (by omega)]) (fun j _ => by rw [TT 3 (by omega) (by omega) (by omega)]) x4' (fun j => by rw [TT 5 (by omega) (by omega) (by omega)]; exact gt j) (by rw [xp, p1, if_pos rfl]) L01 (fun j hj => by rw [xO]; exact (q1 j hj).1) H01 (by rw [HL1, cmm]; omega) Hs1 (fun pc p0 pL => ?_) se1 han ⟨ck, ce, rfl, rfl⟩ ?_
    · rw [TT 1 (by omega) (by omega) (by omega)]
      by_cases y : j = k
      · rw [if_pos y, y]
      · rw [if_neg y]
    · rw [xO, xP]
      obtain ⟨c1, c2, c3⟩ := C1 pc p0 pL
      exact ⟨c1, fun q => (c2 q).imp (fun u => pdk (fun j _ => ⟨by rw [TT 1 (by omega) (by omega) (by omega)], by rw [TT 3 (by omega) (by omega) (by omega)]⟩) (by omega) u) (fun u => u), c3⟩
    · unfold enO
      rw [TT 1 (by omega) (by omega) (by omega), TT 2 (by omega) (by omega) (by omega), TT 3 (by omega) (by omega) (by omega), x4', if_pos rfl]
      exact ⟨en1, en2, by omega, fun _ => by omega, fun q => absurd q nj, en6, fun q => by rw [TT 1 (by omega) (by omega) (by omega)] at q; have ho2 := ho; omega⟩

end
