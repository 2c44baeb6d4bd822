/-! The class's reader: takeOperator, exactly: its turns. -/
section RXB
variable {G : mG} {d z r w T A B D N C n p O P K k a s L V F d0 c c' : Nat} {M0 M M' M1 M2 : mM} {H H' : Nat → Nat} {ns : Nat → Int} {wt o : Int} {u : Ru}
theorem lvl_4 {o : Int} (h : lvl o = 4) : 19 ≤ o ∧ o ≤ 24 := by
  unfold lvl at h
  by_cases c1 : 19 ≤ o ∧ o ≤ 24
  · exact c1
  · exfalso
    rw [if_neg c1] at h
    (repeat' split at h) <;> omega
/-- a sign between operands -/
theorem sgn_v {x : Int} (g : RG M r p O P n s V F ns d0 H L k a 0) (v : RW0 u M r O P s c c' L a) (ho : 19 ≤ o ∧ o ≤ 31) (hw : ruW u a = o - 1) (hc : c ≤ lsq o) (hm : c' < lwx (ruW u a)) (hy : ¬ cmp2 M r k o → ∃ y, hrs u M r y ∧ lwx (ruW u a) ≤ y) (hz : lwx (ruW u a) = 3 → Rf (ruW u) (uZ u) a a) (hB : mI M B a = uP u a) (q : sgQ M z r w T A B D N C n p O P K s V F ns d0 H L k a x M') (e : sgE M r p O P B k L a o x M') : rtV u r p O P s a x M' := by
  obtain ⟨⟨g1, g2, g3, g4⟩, -⟩ := g
  obtain ⟨-, -, -, -, -, q6, q7⟩ := q
  rcases e with ⟨e1, e2⟩ | ⟨e1, e2, ⟨⟨f1, f2, f3, f4, f5⟩, t1, t2, t3, t4, t5⟩, e4, e5⟩
  · rcases q7 with ⟨-, q7⟩ | ⟨q7, -⟩
    · subst q7
      obtain ⟨l1, l2, l3⟩ := e2
      have r1 := lvl_4 l1
      have r2 := lvl_4 l3
      have hx : lwx (ruW u a) = 3 := by rw [hw]; unfold lwx; rw [if_neg (by omega), if_neg (by omega), if_pos (by omega)]
      exact ⟨a, g1, Or.inl ⟨e1, v.dead (k := k - 1) hx (hz hx) (by omega) r2 (by omega)⟩⟩
    · omega
  · rcases q7 with ⟨q7, -⟩ | ⟨-, H', L', g', -⟩
    · omega
    obtain ⟨⟨i1, -, i3, i4⟩, -⟩ := g'
    obtain ⟨y, y1, y2⟩ := hy e2
    rw [hB] at t2
    by_cases yj : o = 30 ∨ o = 31
    · obtain ⟨e6, e7⟩ := e4 yj
      rw [if_pos yj] at t3
      exact rtv_1 (Nat.le_refl a) (L9 := L + 1) e1 i3 i1 e7 (v.sjmp (k := k) yj hw hc hm y1 y2 g2 f1 f2 f3 f4 f5 t1 t2 t3 t4 t5 e6 (fun i hi => (q6 i hi).2))
    · obtain ⟨e6, e7, e8⟩ := e5 yj
      rw [if_neg yj] at t3
      exact rtv_1 (Nat.le_refl a) (L9 := L) e1 i3 i1 e8 (v.sbin (k := k) (by omega) hw hc hm y1 y2 g2 f1 f2 f3 f4 f5 t1 t2 t3 t4 t5 e6 e7)
/-- '?' -/
theorem ask_v {x : Int} (g : RG M r p O P n s V F ns d0 H L k a 0) (v : RW0 u M r O P s c c' L a) (hw : ruW u a = 32) (hc : c ≤ 5) (hm : c' ≤ 5) (hy : hrs u M r 6) (hB : mI M B a = uP u a) (q : sgQ M z r w T A B D N C n p O P K s V F ns d0 H L k a x M') (e : akE M r p O P B k (skk M r k) L a x M') : rtV u r p O P s a x M' := by
  obtain ⟨⟨g1, g2, g3, g4⟩, -, -, gc, -⟩ := g
  have u0 : uw 0 = 1 := rfl
  obtain ⟨-, -, -, -, -, q6, q7⟩ := q
  rcases e with ⟨e1, e2⟩ | ⟨e1, e2, ⟨⟨f1, f2, f3, f4, f5⟩, t1, t2, t3, t4, t5⟩, e4, e5⟩
  · rcases q7 with ⟨-, q7⟩ | ⟨q7, -⟩
    · subst q7
      exact ⟨a, g1, Or.inl ⟨e1, v.ask_no hw hm hy e2⟩⟩
    · omega
  · rcases q7 with ⟨q7, -⟩ | ⟨-, H', L', g', -⟩
    · omega
    obtain ⟨⟨i1, -, i3, i4⟩, -⟩ := g'
    rw [hB] at t2
    exact rtv_1 (Nat.le_refl a) (L9 := L + 1) e1 i3 i1 e5 (v.ask (k := k) (kk := skk M r k) hw hc hm hy e2 g2 (by rw [gc]; omega) f1 f2 f3 f4 f5 t1 t2 t3 t4 (fun i _ => by rw [t5]) e4 (fun i hi => (q6 i hi).2))
/-- what is left open when no sign goes on -/
theorem opn_0 {o : Int} (h : opn o) (l0 : lvl o = 0) (n40 : o ≠ 40) : o = 37 ∨ o = 15 ∨ o = 16 ∨ o = 33 ∨ o = 42 := by
  unfold opn at h
  rcases h with h | h | h | h | h | h | h | h
  · omega
  · omega
  · exfalso
    have := op_nums (Or.inl h)
    omega
  · omega
  · omega
  · omega
  · exfalso
    have := op_nums (o := o) (Or.inr h)
    omega
  · omega
abbrev rtX (u : Ru) (M0 : mM) (z r w T A B D N C n p O P K s V F : Nat) (ns : Nat → Int) (d0 a : Nat) (x : Int) (M' : mM) : Prop := rtQ M0 z r w T A B D N C n p O P K s V F ns d0 a x M' ∧ rtV u r p O P s a x M'
theorem x_to112 (io : i32 o) (e0 : a = n → o = 0) (eo : o = csq (ruW u a)) (hx0 : 0 ≤ ruW u a ∧ ruW u a ≤ 39) : ∀ (k : Nat) (M : mM) (H : Nat → Nat) (L c c' : Nat), RB M z r w T A B D N C n p O P K → rrF M0 r p O P s M → RG M r p O P n s V F ns d0 H L k a 0 → Hid (0 < k → lvl (mI M (r + 1) (k - 1)) = 0 ∧ mI M (r + 1) (k - 1) ≠ 40) → RW0 u M r O P s c c' L a → c ≤ 6 → Hid (lwx (ruW u a) = 0 ∨ (k = 0 ∧ uQ u < lwx (ruW u a))) → h_RR_takeOperator_112 G (d + 1) r o M (rtX u M0 z r w T A B D N C n p O P K s V F ns d0 a)
  | 0, M, H, L, c, c', h, f, g, _, v, hc, hl => by
    have g2 := g.1.2.1
    refine k_RR_takeOperator_112 h.1 io ⟨h.2.1.1, fun y => absurd y (by omega), fun _ => ⟨fun _ => ⟨⟨h, f, Or.inr (Or.inl rfl), H, L, 0, 0, a, g, by omega, fun _ => ⟨rfl, rfl⟩⟩, a, g.1.1, Or.inr (Or.inr ⟨rfl, c, c', L, g.1.2.2.2, hc, g2, v, ?_⟩)⟩, fun y => absurd y (by omega)⟩, fun y => absurd (Or.inl (by omega)) y⟩
    rcases (show _ ∨ _ from hl) with q | q
    · exact Or.inl (by omega)
    · exact Or.inr q.2
  | k + 1, M, H, L, c, c', h, f, g, ht, v, hc, hl => by
    have g2 := g.1.2.1
    have rm := g.room
    have en := g.2.2.2.2.2.2.1 k (by omega)
    have hl0 : lwx (ruW u a) = 0 := by
      rcases (show _ ∨ _ from hl) with q | q
      · exact q
      · exact absurd q.1 (by omega)
    obtain ⟨-, ⟨k0, ⟨q8, -⟩, ⟨kk1, -⟩, ⟨nn1, -⟩⟩, -⟩ := id h
    have l0 := (show 0 < k + 1 → _ from ht) (by omega)
    rw [show k + 1 - 1 = k by omega] at l0
    clear ht hl
    refine k_RR_takeOperator_112 h.1 io ?_
    rw [g2, q8, nn1, show (((k + 1 : Nat) : Int) - 1).toNat = k by omega]
    refine ⟨k0, fun _ => ⟨kk1, by omega⟩, fun y => ⟨fun y0 => absurd y0 (by omega), fun _ => ?_⟩, fun y => ⟨⟨by omega, by omega⟩, fun M92 e92 => ?_⟩⟩
    · have n42 : mI M (r + 1) k ≠ 42 := by
        rcases y with q | q
        · exact absurd q (by omega)
        · exact q
      have top := opn_0 en.1 l0.1 l0.2
      have top4 : mI M (r + 1) k = 37 ∨ mI M (r + 1) k = 15 ∨ mI M (r + 1) k = 16 ∨ mI M (r + 1) k = 33 := by
        clear en l0 y e0 rm
        omega
      rw [show ((k + 1 : Nat) : Int) - 1 = (k : Int) by omega]
      by_cases ya : a < n
      · refine (x_RR_closeInner io g h ya top4 v ?_ ?_ ?_ hc hl0).mono (fun x M' q => ?_)
        · show ruW u a = 37 ↔ o = 38
          rw [eo]; exact (csq_eq (y := 38) hx0.1 hx0.2 (by decide) (by decide)).symm
        · show ruW u a = 35 ↔ o = 36
          rw [eo]; exact (csq_eq (y := 36) hx0.1 hx0.2 (by decide) (by decide)).symm
        · show ruW u a = 33 ↔ o = 34
          rw [eo]; exact (csq_eq (y := 34) hx0.1 hx0.2 (by decide) (by decide)).symm
        · obtain ⟨⟨q1, q2, q3, q4, q5, q6, q7, q8'⟩, qv⟩ := q
          refine ⟨?_, q1.1, ⟨q1, f.trans ⟨q2, q3, q4, q5, q6, q7⟩, ?_⟩, ?_⟩
          · rcases q8' with ⟨e, -⟩ | ⟨e, -⟩ <;> rw [e] <;> exact ⟨by decide, by decide⟩
          · rcases q8' with ⟨e, e2⟩ | ⟨e, H', L', k', wt', g', -⟩
            · rw [e2]; exact ⟨Or.inr (Or.inr e), H, L, k + 1, 0, a, g, Nat.le_refl _, fun q => absurd (e.symm.trans q) (by decide)⟩
            · exact ⟨Or.inl e, H', L', k', wt', a + 1, g', Nat.le_succ _, fun q => absurd (e.symm.trans q) (by decide)⟩
          · rcases q8' with ⟨e, e2⟩ | ⟨e, H', L', k', wt', g', -⟩
            · rw [e2]
              rcases qv with qv | qv
              · exact ⟨a, g.1.1, Or.inl qv⟩
              · exact absurd (e.symm.trans qv.1) (by decide)
            · rcases qv with qv | qv
              · exact absurd (e.symm.trans qv.1) (by decide)
              · exact ⟨a + 1, g'.1.1, Or.inr (Or.inl ⟨qv.1, Nat.lt_succ_self a, qv.2⟩)⟩
      · have eo0 := e0 (by have := g.2.2.1.1; omega)
        rw [eo0]
        refine (s_RR_closeInner0 g h).mono (fun x M' q => ?_)
        obtain ⟨e, e2⟩ := q
        have x0 : ruW u a = 0 := by
          rw [eo0] at eo
          unfold csq at eo
          (repeat' split at eo) <;> omega
        rw [e, e2]
        exact ⟨⟨by decide, by decide⟩, h.1, ⟨h, f, Or.inr (Or.inr rfl), H, L, k + 1, 0, a, g, Nat.le_refl _, fun q => absurd q (by decide)⟩, a, g.1.1, Or.inl ⟨rfl, v.shut (k := k) (by rw [g2]; rfl) rfl top4 (Or.inl (by omega)) (fun _ => by rw [x0]; decide) (fun _ => by rw [x0]; decide) (fun _ => by rw [x0]; decide)⟩⟩
    · have y42 : mI M (r + 1) k = 42 := Classical.byContradiction (fun q => y (Or.inr q))
      refine (x_RR_group g h (by rw [y42]; exact Or.inr (Or.inr (Or.inr rfl))) e92).mono (fun M94 q => ?_)
      obtain ⟨qg, qe⟩ := q
      have fq := f.trans (g_rrF qg)
      have bl := v.below (M' := M94) (k := k) (by rw [g2]; rfl) y42 qe.1.1 (qe.2.1 1 (by decide) (by decide))
      obtain ⟨q1, -, -, -, -, -, -, q8', H', L', g', -⟩ := qg
      have v' := v.grp g y42 (Or.inr (Or.inr (Or.inr rfl))) hc (Or.inl (by omega)) (fun _ => by omega) qe g'.1.2.2.2
      refine ⟨q1.1, x_to112 io e0 eo hx0 k M94 H' L' 6 6 q1 fq g' ?_ v' (by decide) (Or.inl hl0)⟩
      intro hk
      refine ⟨?_, ?_⟩
      · rw [q8' (k - 1) (by omega)]
        exact en.2.2.2.2.2.2 (Or.inr y42) (k - 1) (by omega)
      · exact bl.2 (by decide) (k - 1) (by rw [qe.1.1]; omega)
end RXB
