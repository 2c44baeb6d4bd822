/-! The class's reader: takeOperator, exactly: the whole. -/
theorem fl_pop {o1 x : Int} (h : (19 ≤ o1 ∧ o1 ≤ 31) ∨ o1 = 41) (h0 : 0 ≤ x) (h1 : x ≤ 39) (ht : tgh (csq x) ≤ lvl o1) (c' : Nat) : (lwx x ≤ c' ∨ rsq o1 < lwx x) ∧ (0 < lvl (csq x) → pst o1 < lwx x ∧ cst o1 ≤ lsq (csq x)) ∧ (lvl (csq x) ≤ 0 → cst o1 ≤ 5 ∧ pst o1 ≤ 5) ∧ 1 ≤ cst o1 := by
  have a := op_nums h
  have b := wd_nums h0 h1
  rcases b with b | b | b | b | b | b | b <;> rcases a with a | a | a | a | a | a <;> omega
theorem fl_top {o1 x : Int} (h : opn o1) (n40 : o1 ≠ 40) (h0 : 0 ≤ x) (h1 : x ≤ 39) (hp : 0 < lvl (csq x)) (ht : lvl o1 < tgh (csq x)) (hc : ¬ (lvl (csq x) = 4 ∧ lvl o1 = 4)) : lwx x ≤ rsq o1 := by
  have b := wd_nums h0 h1
  by_cases y : lvl o1 = 0
  · have e : rsq o1 = 6 := by
      rcases opn_0 h y n40 with q | q | q | q | q <;> subst q <;> decide
    omega
  · have a : (19 ≤ o1 ∧ o1 ≤ 31) ∨ o1 = 41 := lvl_pos (by have := lvl_b o1; omega)
    have a := op_nums a
    rcases b with b | b | b | b | b | b | b <;> rcases a with a | a | a | a | a | a <;> omega
section RXC
variable {G : mG} {d z r w T A B D N C n p O P K k a s L V F d0 c c' : Nat} {M0 M M' M1 M2 : mM} {H H' : Nat → Nat} {ns : Nat → Int} {wt o : Int} {u : Ru}
theorem RB.wds (h : RB M0 z r w T A B D N C n p O P K) (f : FI (rdS r p O P) M0 M) : mI M A = mI M0 A ∧ mI M B = mI M0 B ∧ mI M D = mI M0 D ∧ mI M T = mI M0 T := by
  have s := h.2.2.2.2.2.1
  have one : ∀ x, (x = w ∨ x = T ∨ x = A ∨ x = B ∨ x = D) → mI M x = mI M0 x := fun x hx => f.2.2.2.2.2.2 x (fun q => s.2.2 x hx (by
    have q' : (r ≤ x ∧ x ≤ r + 9) ∨ x = p ∨ x = O ∨ x = P := q
    omega))
  exact ⟨one A (by omega), one B (by omega), one D (by omega), one T (by omega)⟩
theorem rtX.i32 {x : Int} (h : rtQ M0 z r w T A B D N C n p O P K s V F ns d0 a x M') : i32 x := by
  rcases h.2.2.1 with e | e | e <;> rw [e] <;> exact ⟨by decide, by decide⟩
theorem x_to36 {l1 : Int} (io : i32 o) (i1 : i32 l1) (e0 : a = n → o = 0) (eo : o = csq (ruW u a)) (hx0 : 0 ≤ ruW u a ∧ ruW u a ≤ 39) (hB0 : mI M0 B a = uP u a) (h00 : RB M0 z r w T A B D N C n p O P K) (hask : Hid ((l1 = 0 → uQ u = 5) ∧ (l1 ≠ 0 → uQ u = 6))) (hz : Hid (lwx (ruW u a) = 3 → Rf (ruW u) (uZ u) a a)) : ∀ (k : Nat) (M : mM) (H : Nat → Nat) (L c c' : Nat), RB M z r w T A B D N C n p O P K → rrF M0 r p O P s M → RG M r p O P n s V F ns d0 H L k a 0 → Hid (0 < k → mI M (r + 1) (k - 1) ≠ 40) → RW0 u M r O P s c c' L a → FL u M r a o c c' → h_RR_takeOperator_36 G (d + 2) r l1 o (lvl o) (tgh o) M (rtX u M0 z r w T A B D N C n p O P K s V F ns d0 a) := by
  have lb := lvl_b o
  have nums := wd_nums hx0.1 hx0.2
  rw [← eo] at nums
  have tb : 1 ≤ tgh o ∧ tgh o ≤ 6 := by
    rcases nums with q | q | q | q | q | q | q <;> omega
  have sgn : Hid (0 < lvl o → (19 ≤ o ∧ o ≤ 31) ∧ ruW u a = o - 1) := fun q => by
    have h39 : o ≤ 39 := by rw [eo]; unfold csq; (repeat' split) <;> omega
    have := lvl_pos q
    have r1 : 19 ≤ o ∧ o ≤ 31 := by omega
    exact ⟨r1, (csq_eq hx0.1 hx0.2 (by omega) h39).mp eo.symm⟩
  have tb2 : Hid (0 < lvl o → tgh o = if lvl o = 4 then 5 else lvl o) := fun q => by
    rcases nums with q1 | q1 | q1 | q1 | q1 | q1 | q1 <;> split <;> omega
  have a33 : Hid (o = 33 → ruW u a = 32) := fun q => (csq_eq (y := 33) hx0.1 hx0.2 (by decide) (by decide)).mp (eo.symm.trans q)
  have lw0 : Hid (lvl o ≤ 0 → lwx (ruW u a) = 0 ∨ (o = 33 ∧ lwx (ruW u a) = 6)) := fun q => by
    rcases nums with q1 | q1 | q1 | q1 | q1 | q1 | q1
    · omega
    · omega
    · omega
    · omega
    · omega
    · exact Or.inl q1.2.2.1
    · refine Or.inr ⟨?_, q1.2.2.1⟩
      rw [eo, q1.2.2.2]
      decide
  have lw5 : Hid (0 < lvl o → lwx (ruW u a) ≤ 5) := fun q => by
    rcases nums with q1 | q1 | q1 | q1 | q1 | q1 | q1 <;> omega
  have q56 : 5 ≤ uQ u := by
    obtain ⟨q1, q2⟩ := (show _ ∧ _ from hask)
    by_cases y : l1 = 0
    · have := q1 y; omega
    · have := q2 y; omega
  clear nums
  have i3 : i32 (lvl o) := i32s (by omega) (by omega)
  have i4 : i32 (tgh o) := i32s (by omega) (by omega)
  have fin : ∀ {k : Nat} {M : mM} {H : Nat → Nat} {L : Nat} {x : Int} {M' : mM}, rrF M0 r p O P s M → RG M r p O P n s V F ns d0 H L k a 0 → sgQ M z r w T A B D N C n p O P K s V F ns d0 H L k a x M' → rtV u r p O P s a x M' → i32 x ∧ mOk M' ∧ rtX u M0 z r w T A B D N C n p O P K s V F ns d0 a x M' := fun {k M H L x M'} f g q hv => by
    have q' := sg_st g f q
    exact ⟨rtX.i32 q', q'.1.1, q', hv⟩
  intro k
  induction k with
  | zero =>
    intro M H L c c' h f g hn v hf
    have g2 := g.1.2.1
    have gn := g.2.2.1.1
    have hBM : mI M B a = uP u a := by rw [(h00.wds f.1).2.1]; exact hB0
    refine k_RR_takeOperator_36 h.1 i1 io i3 i4 ⟨h.2.1.1, fun _ => ⟨fun y => ⟨fun y1 => ?_, fun y1 => ?_⟩, fun y => ?_⟩, fun y => absurd y (by omega)⟩
    · have hl1 : l1 ≠ 0 := by
        rcases y1.2 with q | q
        · exact absurd q (by omega)
        · exact q
      obtain ⟨f1, f2, f3⟩ := hf
      obtain ⟨f31, f32⟩ := f3 y
      have han : a < n := by
        have : a ≠ n := fun q => by have := e0 q; omega
        omega
      refine (x_RR_takeAsk h g han (fun q => absurd q (by omega))).mono (fun x M' q => fin f g q.1 (ask_v g v (a33 y1.1) f31 f32 (Or.inl ⟨g2, (show _ ∧ _ from hask).2 hl1⟩) hBM q.1 q.2))
    · obtain ⟨f1, f2, f3⟩ := hf
      obtain ⟨f31, f32⟩ := f3 y
      refine x_to112 io e0 eo hx0 0 M H L c c' h f g (fun q => absurd q (by omega)) v (by omega) ?_
      rcases (show _ → _ from lw0) y with q | ⟨q1, q2⟩
      · exact Or.inl q
      · refine Or.inr ⟨rfl, ?_⟩
        have : l1 = 0 := Classical.byContradiction (fun q => y1 ⟨q1, Or.inr q⟩)
        rw [(show _ ∧ _ from hask).1 this, q2]
        decide
    · obtain ⟨f1, f2, f3⟩ := hf
      have yp : 0 < lvl o := by omega
      obtain ⟨f21, f22⟩ := f2 yp
      obtain ⟨s1, s2⟩ := (show _ → _ from sgn) yp
      have l5 := (show _ → _ from lw5) yp
      have han : a < n := by
        have : a ≠ n := fun q => by have := e0 q; omega
        omega
      refine (x_RR_takeSign h g s1 han (fun q => absurd q (by omega))).mono (fun x M' q => fin f g q.1 (sgn_v g v s1 s2 f22 f21 (fun _ => ⟨uQ u, Or.inl ⟨g2, rfl⟩, by omega⟩) hz hBM q.1 q.2))
  | succ k ih =>
    intro M H L c c' h f g hn v hf
    have g2 := g.1.2.1
    have gn := g.2.2.1.1
    have rm := g.room
    have en := (g.2.2.2.2.2.2.1 k (by omega)).1
    have hBM : mI M B a = uP u a := by rw [(h00.wds f.1).2.1]; exact hB0
    have n40 : mI M (r + 1) k ≠ 40 := (show 0 < k + 1 → _ from hn) (by omega)
    obtain ⟨-, ⟨k0, ⟨q8, -⟩, ⟨kk1, -⟩, ⟨nn1, -⟩⟩, -⟩ := id h
    have hk1 : mI M r 12 = (k : Int) + 1 := by rw [g2]; rfl
    have hrk : hrs u M r (rsq (mI M (r + 1) k)) := Or.inr ⟨k, hk1, rfl⟩
    refine k_RR_takeOperator_36 h.1 i1 io i3 i4 ?_
    rw [g2, q8, nn1, show (((k + 1 : Nat) : Int) - 1).toNat = k by omega]
    refine ⟨k0, fun y => absurd y (by omega), fun _ => ⟨kk1, by omega, (s_RR_level (h.1 _ _).1 h.1).mono (fun x M39 q => ?_)⟩⟩
    obtain ⟨e39, ex⟩ := q
    subst e39
    have bx := lvl_b (mI M39 (r + 1) k)
    rw [g2]
    refine ⟨by rw [ex]; exact i32s (by omega) (by omega), h.1, fun y => ⟨fun y3 => ⟨fun _ => k0, fun y1 => ⟨k0, ?_⟩, fun y1 => ?_⟩, fun y3 => ⟨k0, ?_⟩⟩, fun y => ⟨k0, ⟨by omega, by omega⟩, fun M72 e72 => ?_⟩⟩
    · obtain ⟨f1, f2, f3⟩ := hf
      obtain ⟨f31, f32⟩ := f3 y3
      have t1 : tgh o = 1 := by unfold tgh; rw [if_neg (by omega), if_pos (by omega)]
      have l0 : lvl (mI M39 (r + 1) k) = 0 := by omega
      have r6 : rsq (mI M39 (r + 1) k) = 6 := by
        rcases opn_0 en l0 n40 with q | q | q | q | q <;> rw [q] <;> decide
      have han : a < n := by
        have : a ≠ n := fun q => by have := e0 q; omega
        omega
      refine (x_RR_takeAsk h g han (fun _ => by rw [show k + 1 - 1 = k by omega]; exact l0)).mono (fun x M' q => fin f g q.1 (ask_v g v (a33 y1.1) f31 f32 (by rw [r6] at hrk; exact hrk) hBM q.1 q.2))
    · obtain ⟨f1, f2, f3⟩ := hf
      obtain ⟨f31, f32⟩ := f3 y3
      have t1 : tgh o = 1 := by unfold tgh; rw [if_neg (by omega), if_pos (by omega)]
      have l0 : lvl (mI M39 (r + 1) k) = 0 := by omega
      refine x_to112 io e0 eo hx0 (k + 1) M39 H L c c' h f g (fun _ => ⟨l0, n40⟩) v (by omega) (Or.inl ?_)
      rcases (show _ → _ from lw0) y3 with q | ⟨q1, q2⟩
      · exact q
      · exact absurd ⟨q1, Or.inl (by omega)⟩ y1
    · obtain ⟨f1, f2, f3⟩ := hf
      have yp : 0 < lvl o := by omega
      obtain ⟨f21, f22⟩ := f2 yp
      obtain ⟨s1, s2⟩ := (show _ → _ from sgn) yp
      have han : a < n := by
        have : a ≠ n := fun q => by have := e0 q; omega
        omega
      have tt := (show _ → _ from tb2) yp
      rw [ex] at y
      refine (x_RR_takeSign h g s1 han (fun _ => by rw [show k + 1 - 1 = k by omega, ← tt]; exact y)).mono (fun x M' q => fin f g q.1 (sgn_v g v s1 s2 f22 f21 (fun nc => ⟨_, hrk, ?_⟩) hz hBM q.1 q.2))
      refine fl_top en n40 hx0.1 hx0.2 (by rw [← eo]; exact yp) (by rw [← eo]; exact y) (fun q => nc ⟨by rw [eo]; exact q.1, Nat.succ_pos k, by rw [show k + 1 - 1 = k by omega]; exact q.2⟩)
    · rw [ex] at y
      have lp := lvl_pos (o := mI M39 (r + 1) k) (by omega)
      have gp : grpO (mI M39 (r + 1) k) := by
        rcases lp with q | q
        · exact Or.inl q
        · exact Or.inr (Or.inr (Or.inl q))
      obtain ⟨p1, p2, p3, p4⟩ := fl_pop lp hx0.1 hx0.2 (by rw [← eo]; omega) c'
      rw [← eo] at p2 p3
      obtain ⟨f1, f2, f3⟩ := hf
      refine (x_RR_group g h gp e72).mono (fun M74 q => ?_)
      obtain ⟨qg, qe⟩ := q
      have fq := f.trans (g_rrF qg)
      have bl := v.below (M' := M74) (k := k) hk1 rfl qe.1.1 (qe.2.1 1 (by decide) (by decide))
      obtain ⟨q1, -, -, -, -, -, -, -, H', L', g', -⟩ := qg
      have v' := v.grp g rfl gp (f1 _ hrk) p1 (fun q => absurd lp (by rw [q]; decide)) qe g'.1.2.2.2
      exact ⟨q1.1, ih M74 H' L' _ _ q1 fq g' (fun hk => bl.2 p4 (k - 1) (by rw [qe.1.1]; omega)) v' ⟨bl.1, p2, p3⟩⟩
theorem x_RR_takeOperator {l1 : Int} (i1 : i32 l1) (h : RB M z r w T A B D N C n p O P K) (g : RG M r p O P n s V F ns d0 H L k a 0) (hWQ : WQ u M A B n) (hask : Hid ((l1 = 0 → uQ u = 5) ∧ (l1 ≠ 0 → uQ u = 6))) (hz : Hid (∀ j, lwx (ruW u j) = 3 → Rf (ruW u) (uZ u) j j)) (hn : Hid (0 < k → mI M (r + 1) (k - 1) ≠ 40)) (v : RW0 u M r O P s 0 0 L a) : Ci G y_RR_takeOperator (d + 3) [vr r, vi l1] M (rtX u M z r w T A B D N C n p O P K s V F ns d0 a) := by
  have g1 := g.1.1
  have gn := g.2.2.1.1
  obtain ⟨w1', w2', w3'⟩ := hWQ a gn
  obtain ⟨-, ⟨k0, -⟩, ⟨r0, -⟩, hW, -⟩ := id h
  obtain ⟨⟨w1, ⟨p0, p3, p4, p5⟩, -, ⟨k3, k4, k5⟩, ⟨c3, c4, c5⟩, w6, w7, w8, -⟩, e2, hnN, hw, hA, hB⟩ := id hW
  refine k_RR_takeOperator h.1 i1 ?_
  rw [r0, p3, g1, c3, Int.toNat_natCast]
  refine ⟨k0, w1, k3, by omega, (s_RR_level (h.1 _ _).1 h.1).mono (fun x M5 q => ?_)⟩
  obtain ⟨e5, ex⟩ := q
  subst e5
  subst ex
  have lb := lvl_b (mI M5 A a)
  refine ⟨i32s (by omega) (by omega), h.1, fun v9 e9 => ?_⟩
  subst e9
  refine x_to36 (h.1 _ _).1 i1 (fun q => by rw [q]; exact hA) w2' w1' w3' h hask ((show ∀ j, _ from hz) a) k M5 H L 0 0 h rrF.refl g hn v ⟨fun y _ => Nat.zero_le y, fun q => ⟨?_, Nat.zero_le _⟩, fun _ => ⟨by decide, by decide⟩⟩
  rw [w2'] at q
  have nums := wd_nums w1'.1 w1'.2
  rcases nums with q1 | q1 | q1 | q1 | q1 | q1 | q1 <;> omega
end RXC
