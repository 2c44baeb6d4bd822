/-! The class's reader: takeOperand, exactly. -/
/-- what the rule's words stand for, as the reader's tables have it -/
def UQ (u : Ru) (M : mM) (r T A B D n c : Nat) : Prop := WQ u M A B n ∧ ∀ v, v < n → (ruW u v = 2 → uC u v = (3, mI M D v)) ∧ (ruW u v = 12 → uC u v = (3, 1)) ∧ (ruW u v = 13 → uC u v = (3, 0)) ∧ (ruW u v = 1 → (nmn M r T B D c v → uE u v = -1 ∧ uC u v = (3, 0)) ∧ ∀ i, fm M r T B D c v i → ((mI M r 6 ≠ 0 ∧ mI M (r + 7) i ≠ 4) → uE u v = -1 ∧ uC u v = (3, 0)) ∧ (¬ (mI M r 6 ≠ 0 ∧ mI M (r + 7) i ≠ 4) → uE u v = mI M (r + 9) i ∧ uC u v = (mI M (r + 7) i, mI M (r + 8) i)))
section RXD
variable {G : mG} {d z r w T A B D N C n p O P K k a a' s L L1 V F d0 c kk : Nat} {M0 M M' M1 M2 M22 : mM} {H H1 H' : Nat → Nat} {ns : Nat → Int} {wt o x t : Int} {u : Ru}
theorem UQ.rr (q : UQ u M r T A B D n c) (h : RB M z r w T A B D N C n p O P K) (f : rrF M r p O P s M') : UQ u M' r T A B D n c := by
  obtain ⟨hA, hB, hD, hT⟩ := h.wds f.1
  obtain ⟨-, f2, -, f4, -⟩ := f
  unfold UQ WQ nmn fm swq at q ⊢
  rw [hA, hB, hD, hT, f2 6 (by decide) (by decide) (by decide) (by decide) (by decide) (by decide) (by decide), f4 6 (by omega) (by omega), f4 7 (by omega) (by omega), f4 8 (by omega) (by omega), f4 9 (by omega) (by omega)]
  exact q
theorem RW1.same (v : RW1 u M r O P s L a) (hr : ∀ i, i ≠ 2 → mI M' r i = mI M r i) (hT : ∀ i, 1 ≤ i → i ≤ 5 → mI M' (r + i) = mI M (r + i)) (hO : mI M' O = mI M O) (hP : mI M' P = mI M P) : RW1 u M' r O P s L a := by
  obtain ⟨gs, od, mq, kn, ft, q1, q2, q3, q4⟩ := v
  refine ⟨gs, od, mq, kn, ft, q1.keep (hr 12 (by decide)) (fun i i1 i4 => hT i i1 (by omega)) (by rw [hT 5 (by decide) (by decide)]; exact q1.1.2.2.2.2) (by rw [hr 14 (by decide)]; exact q1.2.1.2) (q1.2.2.2.1.same (hr 3 (by decide)) (hr 4 (by decide))) (hr 5 (by decide)), by rw [hO, hP]; exact q2, q3, q4⟩
/-- a value is read -/
theorem val_v (v : RW1 u M r O P s L a) (hw : ruW u a = 1 ∨ ruW u a = 2 ∨ ruW u a = 12 ∨ ruW u a = 13) (hkk : mI M r 14 = kk) (s1 : mI M22 r 12 = mI M r 12 ∧ mI M22 r 5 = mI M r 5 ∧ mI M22 r 14 = mI M r 14) (s2 : ∀ i, 1 ≤ i → i ≤ 5 → mI M22 (r + i) = mI M (r + i)) (s3 : mI M22 O = mI M O ∧ mI M22 P = mI M P) (hF : Fqq M r (fl (ruW u) (uE u) (uP u) 0 a (a + 1)) M22) (ht : t = kdq (ruW u) (uE u) 0 a (a + 1)) (ho : uC u a = (o, x)) (e1 : (∀ i, 1 ≤ i → i ≤ 4 → mI M' (r + i) = mI M22 (r + i)) ∧ mI M' r 14 = mI M22 r 14 + 1 ∧ (∀ (c : Nat), mI M22 r 14 = c → ∀ i, mI M' (r + 5) i = if i = c then t else mI M22 (r + 5) i) ∧ (∀ i, mI M' O i = if i = L then o else mI M22 O i) ∧ (∀ i, mI M' P i = if i = L then x else mI M22 P i)) (e2 : ∀ i, i ≠ 2 → i ≠ 7 → i ≠ 14 → mI M' r i = mI M22 r i) (g' : RG M' r p O P n s V F ns d0 H' (L + 1) k (a + 1) 0) : rtV u r p O P s a 0 M' := by
  obtain ⟨q1, q2, q3, q4, q5⟩ := e1
  obtain ⟨⟨i1, -, i3, i4⟩, -⟩ := g'
  have v0 : RW0 u M' r O P s 0 0 (L + 1) (a + 1) := v.val (kk := kk) hw (by rw [e2 12 (by decide) (by decide) (by decide)]; exact s1.1) (by rw [e2 5 (by decide) (by decide) (by decide)]; exact s1.2.1) hkk (by rw [q2, s1.2.2, hkk]) (fun i j1 j4 => by rw [q1 i j1 j4, s2 i j1 (by omega)]) (fun i => by rw [q3 kk (by rw [s1.2.2]; exact hkk) i, s2 5 (by decide) (by decide), ht]) (fun i => by rw [q4, s3.1, ho]) (fun i => by rw [q5, s3.2, ho]) (hF.later (e2 3 (by decide) (by decide) (by decide)) (e2 4 (by decide) (by decide) (by decide)))
  refine ⟨a + 1, i1, Or.inr (Or.inl ⟨rfl, Nat.lt_succ_self a, fun L' hL' => ⟨fun _ => ?_, fun q => absurd (i3.symm.trans q) (by decide)⟩⟩)⟩
  have : L' = L + 1 := by rw [i4] at hL'; exact (Int.ofNat_inj.mp hL').symm
  rw [this]
  exact v0
/-- something is opened -/
theorem lvl_v (v : RW1 u M r O P s L a) (ho : (o = 37 ∧ ruW u a = 36) ∨ (o = 40 ∧ ruW u a = 25) ∨ (o = 41 ∧ ruW u a = 31)) (hm : o = 41 → myd M r) (g : RG M r p O P n s V F ns d0 H L k a 1) (q : lvQ M z r w T A B D N C n p O P K s V F ns d0 H L k a x M') (e : (x = 2 ∧ ¬ mI M r 5 < 40) ∨ (x = 0 ∧ mI M r 5 < 40 ∧ pshE M r k o (uP u a) (-1) 0 (mI M r 5 + 1) (mI M r 14) M')) : rtV u r p O P s a x M' := by
  obtain ⟨⟨g1, g2, g3, g4⟩, -⟩ := g
  obtain ⟨-, -, -, -, ⟨q5, q6, q7⟩, q8⟩ := q
  rcases e with ⟨e1, e2⟩ | ⟨e1, e2, ⟨f1, f2, f3, f4, f5⟩, t1, t2, t3, t4, t5⟩
  · rcases q8 with ⟨-, q8⟩ | ⟨q8, -⟩
    · subst q8
      refine ⟨a, g1, Or.inl ⟨e1, v.no ⟨by omega, fun _ => e2, fun _ h => e2 h.2⟩⟩⟩
    · omega
  · rcases q8 with ⟨q8, -⟩ | ⟨-, g'⟩
    · omega
    obtain ⟨⟨i1, -, i3, i4⟩, -⟩ := g'
    exact rtv_1 (Nat.le_refl a) (L9 := L) e1 i3 i1 i4 (v.lvl (k := k) ho hm e2 g2 f1 f2 f3 f4 f5 t1 t2 t3 t4 t5 q6 q7)
theorem fl_ok (hw : ruW u a = 2 ∨ ruW u a = 12 ∨ ruW u a = 13 ∨ (ruW u a = 1 ∧ uE u a ≠ -1)) : fl (ruW u) (uE u) (uP u) 0 a (a + 1) = (0, 0) := by
  rw [fl_leaf (eo_leaf_lo (by omega)) (by omega) (by omega), if_neg (by omega)]
theorem fl_bad (hw : ruW u a = 1 ∧ uE u a = -1) : fl (ruW u) (uE u) (uP u) 0 a (a + 1) = (2, uP u a) := by
  rw [fl_leaf (eo_leaf_lo (by omega)) (by omega) (by omega), if_pos hw]
theorem x_RR_takeOperand (h : RB M z r w T A B D N C n p O P K) (g : RG M r p O P n s V F ns d0 H L k a 1) (nk : NK M r A n V F ns c) (hUQ : UQ u M r T A B D n c) (v : RW1 u M r O P s L a) : Ci G y_RR_takeOperand (d + 3) [vr r] M (rtX u M z r w T A B D N C n p O P K s V F ns d0 a) := by
  have g1 := g.1.1
  have gn := g.2.2.1.1
  have rm := g.room
  obtain ⟨kk, hkk⟩ : ∃ kk : Nat, mI M r 14 = kk := ⟨_, g.2.2.2.1⟩
  obtain ⟨wa1, wa2, wa3⟩ := hUQ.1 a gn
  have wq : ∀ y : Int, 2 ≤ y → y ≤ 39 → mI M A a = y → ruW u a = y - 1 := fun y y1 y2 e => (csq_eq wa1.1 wa1.2 y1 y2).mp (wa2.symm.trans e)
  have wn : ∀ y : Int, 2 ≤ y → y ≤ 39 → ¬ mI M A a = y → ruW u a ≠ y - 1 := fun y y1 y2 e q => e (wa2.trans ((csq_eq wa1.1 wa1.2 y1 y2).mpr q))
  clear wa2
  obtain ⟨-, ⟨k0, ⟨-, -, -, -, -, q15, q16, q17, q18⟩, ⟨-, -, -, -, -, kk6, kk7, kk8, kk9⟩, ⟨-, -, -, -, -, nn6, nn7, nn8, nn9⟩⟩, ⟨r0, -⟩, hW, -⟩ := id h
  obtain ⟨⟨w1, ⟨p0, p3, p4, p5⟩, -, ⟨k3, k4, k5⟩, ⟨c3, c4, c5⟩, w6, w7, w8, -⟩, e2, hnN, hw, hA, hB⟩ := id hW
  have nend : ∀ {x : Int}, mI M A a = x → x ≠ 0 → a < n := fun {x} e e0 => by
    have : a ≠ n := fun q => by rw [q, hA] at e; omega
    omega
  refine k_RR_takeOperand h.1 ?_
  rw [r0, p3, g1, c3, Int.toNat_natCast]
  refine ⟨k0, w1, k3, by omega, (s_RR_here h g1 gn).mono (fun x6 M5 q => ?_)⟩
  obtain ⟨e5, ex6, x0, x1⟩ := q
  subst e5
  rw [wa3] at ex6
  rw [r0, p5, g1, c5, Int.toNat_natCast]
  have i6 : i32 x6 := i32s (by omega) (by omega)
  have same5 : (mI M5 r 12 = mI M5 r 12 ∧ mI M5 r 5 = mI M5 r 5 ∧ mI M5 r 14 = mI M5 r 14) ∧ (∀ i, 1 ≤ i → i ≤ 5 → mI M5 (r + i) = mI M5 (r + i)) ∧ (mI M5 O = mI M5 O ∧ mI M5 P = mI M5 P) := ⟨⟨rfl, rfl, rfl⟩, fun _ _ _ => rfl, rfl, rfl⟩
  refine ⟨i6, h.1, fun y2 => ⟨k0, ?_⟩, fun y2 => ⟨fun y3 => ⟨k0, w1, k5, by omega, ?_⟩, fun y3 => ⟨fun y13 v57 e57 => ⟨k0, ?_⟩, fun y13 => ⟨fun y15 => ⟨k0, ⟨by omega, by omega⟩, fun M70 e70 => ?_⟩, fun y15 => ⟨fun y26 => ⟨k0, ?_⟩, fun y26 => ⟨fun y32 => ⟨k0, ?_⟩, fun y32 => ⟨fun y37 => ⟨k0, ?_⟩, fun y37 => ?_⟩⟩⟩⟩⟩⟩⟩
  · have han := nend y2 (by omega)
    have ww : ruW u a = 1 := wq 2 (by decide) (by decide) y2
    obtain ⟨-, -, -, un⟩ := hUQ.2 a han
    obtain ⟨un1, un2⟩ := un ww
    refine (x_RR_find h nk han y2).mono (fun x11 M10 q => ?_)
    obtain ⟨e10, hx⟩ := q
    subst e10
    rw [q16, q17, q18, nn7, nn8, nn9]
    have bx : i32 x11 ∧ (x11 ≠ -1 → ∃ i : Nat, x11 = i ∧ fm M10 r T B D c a i) := by
      have hc := nk.2.1
      rcases hx with ⟨q, -⟩ | ⟨i, q, hi⟩
      · exact ⟨by rw [q]; exact i32s (by omega) (by omega), fun q2 => absurd q q2⟩
      · have := hi.1
        exact ⟨by rw [q]; exact i32s (by omega) (by omega), fun _ => ⟨i, q, hi⟩⟩
    have hc := nk.2.1
    refine ⟨bx.1, h.1, fun y => ⟨k0, fun _ => ⟨kk7, ?_⟩⟩, fun y => ⟨k0, (x_RR_note (i32s (by omega) (by omega)) i6 h).mono (fun M22 q => ?_)⟩, fun y => ?_⟩
    · obtain ⟨i, ei, hi⟩ := bx.2 y
      have := hi.1
      omega
    · have bad : uE u a = -1 ∧ uC u a = (3, 0) := by
        rcases hx with ⟨-, q⟩ | ⟨i, q1, q2⟩
        · exact un1 q
        · rw [q1, Int.toNat_natCast] at y
          refine (un2 i q2).1 ?_
          rcases y with y | y
          · omega
          · exact y
      obtain ⟨h22, f22, r22, t22, t22', F22'⟩ := q
      have n22 : ∀ b, b ≠ r → mI M22 b = mI M10 b := fun b hb => f22.2.2.2.2.2.2 b hb
      obtain ⟨oO, oP, op, -⟩ := h.off
      have F22 : FI (rdS r p O P) M10 M22 := f22.mono (fun b q => Or.inl (by have q' : b = r := q; omega))
      have g22 := g.cg (M' := M22) (a' := a) (by rw [r22 2 (by decide) (by decide)]; exact g1) (Nat.le_refl _) gn (r22 12 (by decide) (by decide)) (r22 7 (by decide) (by decide)) (r22 14 (by decide) (by decide)) (r22 5 (by decide) (by decide)) (fun i i1 i5 => n22 (r + i) (by omega)) (by rw [n22 p (by omega)]) (n22 O (by omega)) (n22 P (by omega))
      have rf : rrF M10 r p O P s M22 := ⟨F22, fun i _ i3 i4 _ _ _ _ => r22 i i3 i4, t22', fun i i6 i9 => n22 (r + i) (by omega), fun i _ => by rw [n22 p (by omega)], fun i _ => ⟨by rw [n22 O (by omega)], by rw [n22 P (by omega)]⟩⟩
      have sm : ∀ i, 1 ≤ i → i ≤ 5 → mI M22 (r + i) = mI M10 (r + i) := fun i i1 _ => n22 (r + i) (by omega)
      have so : mI M22 O = mI M10 O ∧ mI M22 P = mI M10 P := ⟨n22 O (by omega), n22 P (by omega)⟩
      have kv : (0 : Int) = kdq (ruW u) (uE u) 0 a (a + 1) := by rw [kd_nam (eo_leaf_lo (Or.inl ww)) (Nat.lt_succ_self a) ww, if_neg (by rw [bad.1]; decide)]
      refine ⟨h22.1, h22.2.1.1, (x_RR_takeValue (i32s (by omega) (by omega)) (i32s (by omega) (by omega)) (Or.inl rfl) h22 g22 han (fun H' e => Or.inl ⟨rfl, by omega, by omega, e⟩) (by unfold jm; omega)).mono (fun x M' q => ?_)⟩
      obtain ⟨qe, qr⟩ := q
      obtain ⟨r1, r2, r3⟩ := v_rt g22 rf qr
      obtain ⟨ey, -, -, e4, -, -, -, H', g', -⟩ := qr
      subst ey
      exact ⟨r1, r2, r3, val_v v (Or.inl ww) hkk ⟨r22 12 (by decide) (by decide), r22 5 (by decide) (by decide), r22 14 (by decide) (by decide)⟩ sm so (by rw [fl_bad ⟨ww, bad.1⟩, ← ex6]; exact F22' (by decide)) kv bad.2 qe e4 g'⟩
    · have nx : x11 ≠ -1 := fun q => y (Or.inl q)
      obtain ⟨i, ei, hfi⟩ := bx.2 nx
      have hi := hfi.1
      obtain ⟨-, ni, nt⟩ := nk.2.2 i hi
      rw [ei, Int.toNat_natCast] at y
      have y6 : mI M10 r 6 = 0 ∨ mI M10 (r + 7) i = 4 := by
        by_cases u6 : mI M10 r 6 = 0
        · exact Or.inl u6
        · by_cases u4 : mI M10 (r + 7) i = 4
          · exact Or.inr u4
          · exact absurd (Or.inr ⟨u6, u4⟩) y
      have gd := (un2 i hfi).2 (fun q => y (Or.inr q))
      rw [ei, Int.toNat_natCast]
      have kv : mI M10 (r + 9) i = kdq (ruW u) (uE u) 0 a (a + 1) := by
        rw [kd_nam (eo_leaf_lo (Or.inl ww)) (Nat.lt_succ_self a) ww, gd.1]
        rcases nt with q | q <;> rw [q] <;> decide
      have nE : uE u a ≠ -1 := by
        rw [gd.1]
        rcases nt with q | q <;> rw [q] <;> decide
      refine ⟨k0, kk7, by omega, kk8, by omega, kk9, by omega, (x_RR_takeValue (h.1 _ _).1 (h.1 _ _).1 nt h g han (fun H' e => ?_) ?_).mono (fun x M' q => ?_)⟩
      · rcases ni with ⟨u1, u2, u3⟩ | ⟨u1, u2, u3, u4⟩ | ⟨u1, u2, u3⟩
        · exact Or.inr (Or.inr (Or.inl ⟨u1, u2, u3 (y6.resolve_right (by omega)), e⟩))
        · exact Or.inr (Or.inl ⟨Or.inl u1, u2, u3, by rw [u4, u1], e⟩)
        · have u6 := u3 (y6.resolve_right (by omega))
          exact Or.inr (Or.inl ⟨Or.inr u1, u2, u6.1, by rw [u6.2, u1], e⟩)
      · unfold jm
        clear nk bx hx y y6
        rcases ni with ⟨u1, -⟩ | ⟨u1, -⟩ | ⟨u1, -⟩ <;> omega
      · obtain ⟨qe, qr⟩ := q
        obtain ⟨r1, r2, r3⟩ := v_rt g rrF.refl qr
        obtain ⟨ey, -, -, e4, -, -, -, H', g', -⟩ := qr
        subst ey
        exact ⟨r1, r2, r3, val_v v (Or.inl ww) hkk same5.1 same5.2.1 same5.2.2 (by rw [fl_ok (Or.inr (Or.inr (Or.inr ⟨ww, nE⟩)))]; exact Fq_none rfl rfl) kv gd.2 qe e4 g'⟩
  · have han := nend y3 (by omega)
    have ww : ruW u a = 2 := wq 3 (by decide) (by decide) y3
    have uc := (hUQ.2 a han).1 ww
    have am := (hw a han).2.2.2 y3
    refine (x_RR_takeValue (i32s (by omega) (by omega)) (h.1 _ _).1 (Or.inl rfl) h g han (fun H' e => Or.inl ⟨rfl, by omega, by omega, e⟩) (by unfold jm; omega)).mono (fun x M' q => ?_)
    obtain ⟨qe, qr⟩ := q
    obtain ⟨r1, r2, r3⟩ := v_rt g rrF.refl qr
    obtain ⟨ey, -, -, e4, -, -, -, H', g', -⟩ := qr
    subst ey
    exact ⟨r1, r2, r3, val_v v (Or.inr (Or.inl ww)) hkk same5.1 same5.2.1 same5.2.2 (by rw [fl_ok (Or.inl ww)]; exact Fq_none rfl rfl) (kd_num (eo_leaf_lo (Or.inr (Or.inl ww))) (Nat.lt_succ_self a) (Or.inr (Or.inl ww))).symm uc qe e4 g'⟩
  · have han : a < n := by
      rcases y13 with q | q
      · exact nend q (by omega)
      · exact nend q (by omega)
    have uc : uC u a = (3, v57) ∧ (ruW u a = 12 ∨ ruW u a = 13) := by
      rcases y13 with q | q
      · have ww : ruW u a = 12 := wq 13 (by decide) (by decide) q
        rw [if_pos q] at e57
        rw [e57]
        exact ⟨(hUQ.2 a han).2.1 ww, Or.inl ww⟩
      · have ww : ruW u a = 13 := wq 14 (by decide) (by decide) q
        rw [if_neg (by rw [q]; decide)] at e57
        rw [e57]
        exact ⟨(hUQ.2 a han).2.2.1 ww, Or.inr ww⟩
    have b57 : v57 = 0 ∨ v57 = 1 := by rw [e57]; split <;> omega
    refine (x_RR_takeValue (i32s (by omega) (by omega)) (i32s (by omega) (by omega)) (Or.inr rfl) h g han (fun H' e => Or.inl ⟨rfl, by omega, by omega, e⟩) (by unfold jm; omega)).mono (fun x M' q => ?_)
    obtain ⟨qe, qr⟩ := q
    obtain ⟨r1, r2, r3⟩ := v_rt g rrF.refl qr
    obtain ⟨ey, -, -, e4, -, -, -, H', g', -⟩ := qr
    subst ey
    exact ⟨r1, r2, r3, val_v v (Or.inr (Or.inr uc.2)) hkk same5.1 same5.2.1 same5.2.2 (by rw [fl_ok (by rcases uc.2 with q | q; exact Or.inr (Or.inl q); exact Or.inr (Or.inr (Or.inl q)))]; exact Fq_none rfl rfl) (kd_tru (eo_leaf_lo (Or.inr (Or.inr uc.2))) (Nat.lt_succ_self a) (Or.inr uc.2)).symm uc.1 qe e4 g'⟩
  · have han : a < n := by
      rcases y15 with q | q
      · exact nend q (by omega)
      · exact nend q (by omega)
    have ww : ruW u a = mI M5 A a - 1 := by
      rcases y15 with q | q
      · rw [q]; exact wq 15 (by decide) (by decide) q
      · rw [q]; exact wq 16 (by decide) (by decide) q
    have ww2 : ruW u a = 14 ∨ ruW u a = 15 := by
      rcases y15 with q | q
      · exact Or.inl (by rw [ww, q]; decide)
      · exact Or.inr (by rw [ww, q]; decide)
    obtain ⟨h70, f70, r70, n70⟩ := rb_fld h ⟨by omega, by omega⟩ e70
    obtain ⟨oO, oP, op, -⟩ := h.off
    have a70 : mI M70 r 2 = ((a + 1 : Nat) : Int) := by rw [r70, if_pos rfl]; omega
    have A70 := (h.word f70).1
    have g70 := g.cg (M' := M70) (a' := a + 1) a70 (by omega) (by omega) (by rw [r70, if_neg (by decide)]) (by rw [r70, if_neg (by decide)]) (by rw [r70, if_neg (by decide)]) (by rw [r70, if_neg (by decide)]) (fun i i1 i5 => n70 (r + i) (by omega)) (by rw [n70 p (by omega)]) (n70 O (by omega)) (n70 P (by omega))
    have rf : rrF M5 r p O P s M70 := ⟨f70, fun i i2 _ _ _ _ _ _ => by rw [r70, if_neg i2], fun _ => by rw [r70, if_neg (by decide)], fun i i6 i9 => n70 (r + i) (by omega), fun i _ => by rw [n70 p (by omega)], fun i _ => ⟨by rw [n70 O (by omega)], by rw [n70 P (by omega)]⟩⟩
    have v70 : RW1 u M70 r O P s L a := v.same (fun i i2 => by rw [r70, if_neg i2]) (fun i i1 _ => n70 (r + i) (by omega)) (n70 O (by omega)) (n70 P (by omega))
    obtain ⟨wb1, wb2, -⟩ := hUQ.1 (a + 1) (by omega)
    have wnx : mI M70 A (a + 1) = 37 ↔ ruW u (a + 1) = 36 := by rw [A70, wb2]; exact csq_eq (y := 37) wb1.1 wb1.2 (by decide) (by decide)
    clear wb2 wb1
    obtain ⟨-, -, ⟨r0', -⟩, hW', -⟩ := id h70
    obtain ⟨⟨w1', ⟨p0', p3', p4', p5'⟩, -, ⟨k3', k4', k5'⟩, ⟨c3', c4', c5'⟩, -⟩, -⟩ := id hW'
    rw [r0', p3', c3', a70, Int.toNat_natCast]
    refine ⟨w1', k3', by omega, fun y => ?_, fun y => ?_⟩
    · have han1 : a + 1 < n := by
        have : a + 1 ≠ n := fun q => by rw [A70, q, hA] at y; omega
        omega
      refine (x_RR_takeLevel h70 g70 (by omega) ⟨x0, x1⟩ han1).mono (fun x M' q => ?_)
      obtain ⟨ql, qe⟩ := q
      obtain ⟨q1, q2, q3⟩ := l_rt (a := a) (by omega) g70 rf ql
      refine ⟨q1, q2, k_RR_takeOperand_277 q2 q1 ⟨q3, ?_⟩⟩
      obtain ⟨-, -, -, -, ⟨s5, s6, s7⟩, s8⟩ := ql
      rcases qe with ⟨z1, z2⟩ | ⟨z1, z2, ⟨f1, f2, f3, f4, f5⟩, t1, t2, t3, t4, t5⟩
      · rcases s8 with ⟨-, s8⟩ | ⟨s8, -⟩
        · subst s8
          exact ⟨a + 1, a70, Or.inl ⟨z1, v70.lst_no ww2 (fun q => z2 q.2)⟩⟩
        · exact absurd (z1.symm.trans s8) (by decide)
      · rcases s8 with ⟨s8, -⟩ | ⟨-, g'⟩
        · exact absurd (z1.symm.trans s8) (by decide)
        obtain ⟨⟨i1, -, i3, i4⟩, -⟩ := g'
        rw [ex6] at t2
        exact rtv_1 (a := a + 1) (Nat.le_succ a) (L9 := L) z1 i3 i1 i4 (v70.lst (k := k) y15 ww (wnx.mp y) z2 g70.1.2.1 f1 f2 f3 f4 f5 t1 t2 t3 t4 t5 s6 s7)
    · refine k_RR_takeOperand_277 h70.1 (i32s (by omega) (by omega)) ⟨⟨h70, rf, Or.inr (Or.inr rfl), H, L, k, 1, a + 1, g70, by omega, fun q => absurd q (by decide)⟩, a + 1, a70, Or.inl ⟨rfl, v70.lst_no ww2 (fun q => y (wnx.mpr q.1))⟩⟩
  · refine (x_RR_takeLevel h g (by omega) ⟨x0, x1⟩ (nend y26 (by omega))).mono (fun x M' q => ?_)
    obtain ⟨ql, qe⟩ := q
    rw [ex6] at qe
    obtain ⟨r1, r2, r3⟩ := l_rt (Nat.le_refl _) g rrF.refl ql
    exact ⟨r1, r2, r3, lvl_v v (Or.inr (Or.inl ⟨rfl, wq 26 (by decide) (by decide) y26⟩)) (fun q => absurd q (by decide)) g ql qe⟩
  · have han := nend y32 (by omega)
    have ww : ruW u a = 31 := wq 32 (by decide) (by decide) y32
    refine (x_RR_mayDeny h g.1.2.1 (by omega)).mono (fun x88 M87 q => ?_)
    obtain ⟨e87, hx, hx2⟩ := q
    subst e87
    have mm : Hid (x88 ≠ 0 ↔ myd M87 r) := hx2
    clear hx2
    refine ⟨i32s (by omega) (by omega), h.1, fun z0 => k_RR_takeOperand_239 h.1 (i32s (by omega) (by omega)) ⟨⟨h, rrF.refl, Or.inr (Or.inr rfl), H, L, k, 1, a, g, Nat.le_refl _, fun q => absurd q (by decide)⟩, a, g1, Or.inl ⟨rfl, v.no ⟨by omega, fun q => by omega, fun _ q => (show _ ↔ _ from mm).mpr q.1 z0⟩⟩⟩, fun z0 => ⟨k0, (x_RR_takeLevel h g (by omega) ⟨x0, x1⟩ han).mono (fun x M' q => ?_)⟩⟩
    obtain ⟨ql, qe⟩ := q
    rw [ex6] at qe
    obtain ⟨q1, q2, q3⟩ := l_rt (a := a) (Nat.le_refl _) g rrF.refl ql
    exact ⟨q1, q2, k_RR_takeOperand_239 q2 q1 ⟨q3, lvl_v v (Or.inr (Or.inr ⟨rfl, ww⟩)) (fun _ => (show _ ↔ _ from mm).mp z0) g ql qe⟩⟩
  · refine (x_RR_takeLevel h g (by omega) ⟨x0, x1⟩ (nend y37 (by omega))).mono (fun x M' q => ?_)
    obtain ⟨ql, qe⟩ := q
    rw [ex6] at qe
    obtain ⟨r1, r2, r3⟩ := l_rt (Nat.le_refl _) g rrF.refl ql
    exact ⟨r1, r2, r3, lvl_v v (Or.inl ⟨rfl, wq 37 (by decide) (by decide) y37⟩) (fun q => absurd q (by decide)) g ql qe⟩
  · have m2 := wn 2 (by decide) (by decide) y2
    have m3 := wn 3 (by decide) (by decide) y3
    have m13 := wn 13 (by decide) (by decide) (fun q => y13 (Or.inl q))
    have m14 := wn 14 (by decide) (by decide) (fun q => y13 (Or.inr q))
    have m15 := wn 15 (by decide) (by decide) (fun q => y15 (Or.inl q))
    have m16 := wn 16 (by decide) (by decide) (fun q => y15 (Or.inr q))
    have m26 := wn 26 (by decide) (by decide) y26
    have m32 := wn 32 (by decide) (by decide) y32
    have m37 := wn 37 (by decide) (by decide) y37
    refine ⟨⟨h, rrF.refl, Or.inr (Or.inr rfl), H, L, k, 1, a, g, Nat.le_refl _, fun q => absurd q (by decide)⟩, a, g1, Or.inl ⟨rfl, v.no ⟨?_, ?_, ?_⟩⟩⟩
    · rintro (q | q | q | q | q | q)
      · exact m2 q
      · exact m3 q
      · exact m13 q
      · exact m14 q
      · exact m15 q
      · exact m16 q
    · rintro (q | q)
      · exact absurd q m26
      · exact absurd q m37
    · intro q
      exact absurd q m32
end RXD
