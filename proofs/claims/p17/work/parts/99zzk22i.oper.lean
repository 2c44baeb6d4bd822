section
section
/-! The class's reader: takeOperator, exactly. -/
/-- the class's number of a word -/
def csq (x : Int) : Int := if x = 0 then 0 else if x = 39 then 1 else x + 1
/-- the words, as they stand in memory -/
def WQ (u : Ru) (M : mM) (A B n : Nat) : Prop := ∀ j, j ≤ n → (0 ≤ ruW u j ∧ ruW u j ≤ 39) ∧ mI M A j = csq (ruW u j) ∧ mI M B j = uP u j
/-- how strong the operand counts while operations are grouped before the word o -/
def FL (u : Ru) (M : mM) (r a : Nat) (o : Int) (c c' : Nat) : Prop := (∀ y, hrs u M r y → c ≤ y) ∧ (0 < lvl o → c' < lwx (ruW u a) ∧ c ≤ lsq o) ∧ (lvl o ≤ 0 → c ≤ 5 ∧ c' ≤ 5)
/-- what a step comes to -/
def rtV (u : Ru) (r p O P s b : Nat) (x : Int) (M' : mM) : Prop := ∃ a' : Nat, mI M' r 2 = a' ∧ ((x = 2 ∧ Rf (ruW u) (uS u) (uK u) a') ∨ (x = 0 ∧ b < a' ∧ RWx u M' r p O P s a') ∨ (x = 1 ∧ ∃ c c' L' : Nat, mI M' p 2 = L' ∧ c ≤ 6 ∧ mI M' r 12 = 0 ∧ RW0 u M' r O P s c c' L' a' ∧ (lwx (ruW u a') ≤ c' ∨ uQ u < lwx (ruW u a'))))
/-- the numbers of an operation: level, strengths -/
theorem op_nums {o : Int} (h : (19 ≤ o ∧ o ≤ 31) ∨ o = 41) : (lvl o = 6 ∧ rsq o = 0 ∧ cst o = 1 ∧ pst o = 0) ∨ (lvl o = 5 ∧ rsq o = 1 ∧ cst o = 2 ∧ pst o = 1) ∨ (lvl o = 4 ∧ rsq o = 2 ∧ cst o = 3 ∧ pst o = 3) ∨ (lvl o = 3 ∧ rsq o = 3 ∧ cst o = 3 ∧ pst o = 3) ∨ (lvl o = 2 ∧ rsq o = 3 ∧ cst o = 4 ∧ pst o = 3) ∨ (lvl o = 1 ∧ rsq o = 4 ∧ cst o = 5 ∧ pst o = 4) := by
  have e : o = 19 ∨ o = 20 ∨ o = 21 ∨ o = 22 ∨ o = 23 ∨ o = 24 ∨ o = 25 ∨ o = 26 ∨ o = 27 ∨ o = 28 ∨ o = 29 ∨ o = 30 ∨ o = 31 ∨ o = 41 := by omega
  rcases e with e | e | e | e | e | e | e | e | e | e | e | e | e | e <;> subst e <;> decide
/-- the numbers of a word -/
theorem wd_nums {x : Int} (h0 : 0 ≤ x) (h1 : x ≤ 39) : (lvl (csq x) = 6 ∧ tgh (csq x) = 6 ∧ lwx x = 1 ∧ lsq (csq x) = 1) ∨ (lvl (csq x) = 5 ∧ tgh (csq x) = 5 ∧ lwx x = 2 ∧ lsq (csq x) = 2) ∨ (lvl (csq x) = 4 ∧ tgh (csq x) = 5 ∧ lwx x = 3 ∧ lsq (csq x) = 2) ∨ (lvl (csq x) = 2 ∧ tgh (csq x) = 2 ∧ lwx x = 4 ∧ lsq (csq x) = 4) ∨ (lvl (csq x) = 1 ∧ tgh (csq x) = 1 ∧ lwx x = 5 ∧ lsq (csq x) = 5) ∨ (lvl (csq x) = 0 ∧ tgh (csq x) = 1 ∧ lwx x = 0 ∧ x ≠ 32) ∨ (lvl (csq x) = 0 ∧ tgh (csq x) = 1 ∧ lwx x = 6 ∧ x = 32) := by
  have e : x = 0 ∨ x = 1 ∨ x = 2 ∨ x = 3 ∨ x = 4 ∨ x = 5 ∨ x = 6 ∨ x = 7 ∨ x = 8 ∨ x = 9 ∨ x = 10 ∨ x = 11 ∨ x = 12 ∨ x = 13 ∨ x = 14 ∨ x = 15 ∨ x = 16 ∨ x = 17 ∨ x = 18 ∨ x = 19 ∨ x = 20 ∨ x = 21 ∨ x = 22 ∨ x = 23 ∨ x = 24 ∨ x = 25 ∨ x = 26 ∨ x = 27 ∨ x = 28 ∨ x = 29 ∨ x = 30 ∨ x = 31 ∨ x = 32 ∨ x = 33 ∨ x = 34 ∨ x = 35 ∨ x = 36 ∨ x = 37 ∨ x = 38 ∨ x = 39 := by omega
  rcases e with e | e | e | e | e | e | e | e | e | e | e | e | e | e | e | e | e | e | e | e | e | e | e | e | e | e | e | e | e | e | e | e | e | e | e | e | e | e | e | e <;> subst e <;> decide
theorem csq_eq {x y : Int} (h0 : 0 ≤ x) (h1 : x ≤ 39) (hy : 2 ≤ y) (hy2 : y ≤ 39) : csq x = y ↔ x = y - 1 := by
  unfold csq
  (repeat' split) <;> omega
section RXA
variable {G : mG} {d z r w T A B D N C n p O P K k a s L V F d0 c c' : Nat} {M0 M M' M1 M2 : mM} {H H' : Nat → Nat} {ns : Nat → Int} {wt o : Int} {u : Ru}
/-- below a sign that has been grouped -/
theorem RW0.below (v : RW0 u M r O P s c c' L a) (hk : mI M r 12 = (k : Int) + 1) (ho : mI M (r + 1) k = o) (h12 : mI M' r 12 = k) (h1 : mI M' (r + 1) = mI M (r + 1)) : (∀ y, hrs u M' r y → cst o ≤ y) ∧ (1 ≤ cst o → ∀ j : Nat, mI M' r 12 = (j : Int) + 1 → mI M' (r + 1) j ≠ 40) := by
  obtain ⟨m, x, t, od, mq, kn, ft, e, q1, q2, q3⟩ := v.cases hk ho
  have wo := q1.wo
  have hc : cst o ≤ rsl (uQ u) (ops t) := wo.2.1
  cases t with
  | nil =>
    have e : k = 0 := e.symm
    refine ⟨fun y hy => ?_, fun _ j hj => by omega⟩
    rcases hy with ⟨-, hy⟩ | ⟨j, hj, -⟩
    · have : cst o ≤ uQ u := hc
      omega
    · omega
  | cons g t =>
    have e : t.length + 1 = k := e
    have hc : cst o ≤ rsq g.1 := hc
    have hop : mI M (r + 1) t.length = g.1 := by
      have := q1.1.1.2.1
      rw [List.length_map] at this
      exact this
    refine ⟨fun y hy => ?_, fun h1' j hj => ?_⟩
    · rcases hy with ⟨hy, -⟩ | ⟨j, hj, hy⟩
      · omega
      · have : j = t.length := by omega
        rw [this, h1, hop] at hy
        omega
    · have : j = t.length := by omega
      rw [this, h1, hop]
      intro q
      rw [q] at hc
      have : rsq 40 = 0 := by decide
      omega
/-- a sign, '?' -/
theorem rtv_1 {x : Int} {L9 b : Nat} (hb : b ≤ a) (hx : x = 0) (h7 : mI M' r 7 = 1) (h2 : mI M' r 2 = ((a + 1 : Nat) : Int)) (hp : mI M' p 2 = L9) (v : RW1 u M' r O P s L9 (a + 1)) : rtV u r p O P s b x M' :=
  ⟨a + 1, h2, Or.inr (Or.inl ⟨hx, Nat.lt_succ_of_le hb, fun L' hL' => ⟨fun q => absurd q (by rw [h7]; decide), fun _ => by
    have : L' = L9 := by rw [hp] at hL'; exact (Int.ofNat_inj.mp hL').symm
    rw [this]; exact v⟩⟩)⟩
end RXA
end
section
/-! The class's reader: takeOperator, exactly: its turns. -/
section RXB
variable {G : mG} {d z r w T A B D N C n p O P K k a s L V F d0 c c' : Nat} {M0 M M' M1 M2 : mM} {H H' : Nat → Nat} {ns : Nat → Int} {wt o : Int} {u : Ru}
theorem lvl_4 {o : Int} (h : lvl o = 4) : 19 ≤ o ∧ o ≤ 24 := by
  unfold lvl at h
  by_cases c1 : 19 ≤ o ∧ o ≤ 24
  · exact c1
  · exfalso
    rw [if_neg c1] at h
    (repeat' split at h) <;> omega
/-- a sign between operands -/
theorem sgn_v {x : Int} (g : RG M r p O P n s V F ns d0 H L k a 0) (v : RW0 u M r O P s c c' L a) (ho : 19 ≤ o ∧ o ≤ 31) (hw : ruW u a = o - 1) (hc : c ≤ lsq o) (hm : c' < lwx (ruW u a)) (hy : ¬ cmp2 M r k o → ∃ y, hrs u M r y ∧ lwx (ruW u a) ≤ y) (hz : lwx (ruW u a) = 3 → Rf (ruW u) (uZ u) a a) (hB : mI M B a = uP u a) (q : sgQ M z r w T A B D N C n p O P K s V F ns d0 H L k a x M') (e : sgE M r p O P B k L a o x M') : rtV u r p O P s a x M' := by
  obtain ⟨⟨g1, g2, g3, g4⟩, -⟩ := g
  obtain ⟨-, -, -, -, -, q6, q7⟩ := q
  rcases e with ⟨e1, e2⟩ | ⟨e1, e2, ⟨⟨f1, f2, f3, f4, f5⟩, t1, t2, t3, t4, t5⟩, e4, e5⟩
  · rcases q7 with ⟨-, q7⟩ | ⟨q7, -⟩
    · subst q7
      obtain ⟨l1, l2, l3⟩ := e2
      have r1 := lvl_4 l1
      have r2 := lvl_4 l3
      have hx : lwx (ruW u a) = 3 := by rw [hw]; unfold lwx; rw [if_neg (by omega), if_neg (by omega), if_pos (by omega)]
      exact ⟨a, g1, Or.inl ⟨e1, v.dead (k := k - 1) hx (hz hx) (by omega) r2 (by omega)⟩⟩
    · omega
  · rcases q7 with ⟨q7, -⟩ | ⟨-, H', L', g', -⟩
    · omega
    obtain ⟨⟨i1, -, i3, i4⟩, -⟩ := g'
    obtain ⟨y, y1, y2⟩ := hy e2
    rw [hB] at t2
    by_cases yj : o = 30 ∨ o = 31
    · obtain ⟨e6, e7⟩ := e4 yj
      rw [if_pos yj] at t3
      exact rtv_1 (Nat.le_refl a) (L9 := L + 1) e1 i3 i1 e7 (v.sjmp (k := k) yj hw hc hm y1 y2 g2 f1 f2 f3 f4 f5 t1 t2 t3 t4 t5 e6 (fun i hi => (q6 i hi).2))
    · obtain ⟨e6, e7, e8⟩ := e5 yj
      rw [if_neg yj] at t3
      exact rtv_1 (Nat.le_refl a) (L9 := L) e1 i3 i1 e8 (v.sbin (k := k) (by omega) hw hc hm y1 y2 g2 f1 f2 f3 f4 f5 t1 t2 t3 t4 t5 e6 e7)
/-- '?' -/
theorem ask_v {x : Int} (g : RG M r p O P n s V F ns d0 H L k a 0) (v : RW0 u M r O P s c c' L a) (hw : ruW u a = 32) (hc : c ≤ 5) (hm : c' ≤ 5) (hy : hrs u M r 6) (hB : mI M B a = uP u a) (q : sgQ M z r w T A B D N C n p O P K s V F ns d0 H L k a x M') (e : akE M r p O P B k (skk M r k) L a x M') : rtV u r p O P s a x M' := by
  obtain ⟨⟨g1, g2, g3, g4⟩, -, -, gc, -⟩ := g
  have u0 : uw 0 = 1 := rfl
  obtain ⟨-, -, -, -, -, q6, q7⟩ := q
  rcases e with ⟨e1, e2⟩ | ⟨e1, e2, ⟨⟨f1, f2, f3, f4, f5⟩, t1, t2, t3, t4, t5⟩, e4, e5⟩
  · rcases q7 with ⟨-, q7⟩ | ⟨q7, -⟩
    · subst q7
      exact ⟨a, g1, Or.inl ⟨e1, v.ask_no hw hm hy e2⟩⟩
    · omega
  · rcases q7 with ⟨q7, -⟩ | ⟨-, H', L', g', -⟩
    · omega
    obtain ⟨⟨i1, -, i3, i4⟩, -⟩ := g'
    rw [hB] at t2
    exact rtv_1 (Nat.le_refl a) (L9 := L + 1) e1 i3 i1 e5 (v.ask (k := k) (kk := skk M r k) hw hc hm hy e2 g2 (by rw [gc]; omega) f1 f2 f3 f4 f5 t1 t2 t3 t4 (fun i _ => by rw [t5]) e4 (fun i hi => (q6 i hi).2))
/-- what is left open when no sign goes on -/
theorem opn_0 {o : Int} (h : opn o) (l0 : lvl o = 0) (n40 : o ≠ 40) : o = 37 ∨ o = 15 ∨ o = 16 ∨ o = 33 ∨ o = 42 := by
  unfold opn at h
  rcases h with h | h | h | h | h | h | h | h
  · omega
  · omega
  · exfalso
    have := op_nums (Or.inl h)
    omega
  · omega
  · omega
  · omega
  · exfalso
    have := op_nums (o := o) (Or.inr h)
    omega
  · omega
abbrev rtX (u : Ru) (M0 : mM) (z r w T A B D N C n p O P K s V F : Nat) (ns : Nat → Int) (d0 a : Nat) (x : Int) (M' : mM) : Prop := rtQ M0 z r w T A B D N C n p O P K s V F ns d0 a x M' ∧ rtV u r p O P s a x M'
theorem x_to112 (io : i32 o) (e0 : a = n → o = 0) (eo : o = csq (ruW u a)) (hx0 : 0 ≤ ruW u a ∧ ruW u a ≤ 39) : ∀ (k : Nat) (M : mM) (H : Nat → Nat) (L c c' : Nat), RB M z r w T A B D N C n p O P K → rrF M0 r p O P s M → RG M r p O P n s V F ns d0 H L k a 0 → Hid (0 < k → lvl (mI M (r + 1) (k - 1)) = 0 ∧ mI M (r + 1) (k - 1) ≠ 40) → RW0 u M r O P s c c' L a → c ≤ 6 → Hid (lwx (ruW u a) = 0 ∨ (k = 0 ∧ uQ u < lwx (ruW u a))) → h_RR_takeOperator_112 G (d + 1) r o M (rtX u M0 z r w T A B D N C n p O P K s V F ns d0 a)
  | 0, M, H, L, c, c', h, f, g, _, v, hc, hl => by
    have g2 := g.1.2.1
    refine k_RR_takeOperator_112 h.1 io ⟨h.2.1.1, fun y => absurd y (by omega), fun _ => ⟨fun _ => ⟨⟨h, f, Or.inr (Or.inl rfl), H, L, 0, 0, a, g, by omega, fun _ => ⟨rfl, rfl⟩⟩, a, g.1.1, Or.inr (Or.inr ⟨rfl, c, c', L, g.1.2.2.2, hc, g2, v, ?_⟩)⟩, fun y => absurd y (by omega)⟩, fun y => absurd (Or.inl (by omega)) y⟩
    rcases (show _ ∨ _ from hl) with q | q
    · exact Or.inl (by omega)
    · exact Or.inr q.2
  | k + 1, M, H, L, c, c', h, f, g, ht, v, hc, hl => by
    have g2 := g.1.2.1
    have rm := g.room
    have en := g.2.2.2.2.2.2.1 k (by omega)
    have hl0 : lwx (ruW u a) = 0 := by
      rcases (show _ ∨ _ from hl) with q | q
      · exact q
      · exact absurd q.1 (by omega)
    obtain ⟨-, ⟨k0, ⟨q8, -⟩, ⟨kk1, -⟩, ⟨nn1, -⟩⟩, -⟩ := id h
    have l0 := (show 0 < k + 1 → _ from ht) (by omega)
    rw [show k + 1 - 1 = k by first | rfl | omega] at l0
    clear ht hl
    refine k_RR_takeOperator_112 h.1 io ?_
    rw [g2, q8, nn1, show (((k + 1 : Nat) : Int) - 1).toNat = k by first | rfl | omega]
    refine ⟨k0, fun _ => ⟨kk1, by omega⟩, fun y => ⟨fun y0 => absurd y0 (by omega), fun _ => ?_⟩, fun y => ⟨⟨by omega, by omega⟩, fun M92 e92 => ?_⟩⟩
    · have n42 : mI M (r + 1) k ≠ 42 := by
        rcases y with q | q
        · exact absurd q (by omega)
        · exact q
      have top := opn_0 en.1 l0.1 l0.2
      have top4 : mI M (r + 1) k = 37 ∨ mI M (r + 1) k = 15 ∨ mI M (r + 1) k = 16 ∨ mI M (r + 1) k = 33 := by
        clear en l0 y e0 rm
        omega
      rw [show ((k + 1 : Nat) : Int) - 1 = (k : Int) by first | rfl | omega]
      by_cases ya : a < n
      · refine (x_RR_closeInner io g h ya top4 v ?_ ?_ ?_ hc hl0).mono (fun x M' q => ?_)
        · show ruW u a = 37 ↔ o = 38
          rw [eo]; exact (csq_eq (y := 38) hx0.1 hx0.2 (by decide) (by decide)).symm
        · show ruW u a = 35 ↔ o = 36
          rw [eo]; exact (csq_eq (y := 36) hx0.1 hx0.2 (by decide) (by decide)).symm
        · show ruW u a = 33 ↔ o = 34
          rw [eo]; exact (csq_eq (y := 34) hx0.1 hx0.2 (by decide) (by decide)).symm
        · obtain ⟨⟨q1, q2, q3, q4, q5, q6, q7, q8'⟩, qv⟩ := q
          refine ⟨?_, q1.1, ⟨q1, f.trans ⟨q2, q3, q4, q5, q6, q7⟩, ?_⟩, ?_⟩
          · rcases q8' with ⟨e, -⟩ | ⟨e, -⟩ <;> rw [e] <;> exact ⟨by decide, by decide⟩
          · rcases q8' with ⟨e, e2⟩ | ⟨e, H', L', k', wt', g', -⟩
            · rw [e2]; exact ⟨Or.inr (Or.inr e), H, L, k + 1, 0, a, g, Nat.le_refl _, fun q => absurd (e.symm.trans q) (by decide)⟩
            · exact ⟨Or.inl e, H', L', k', wt', a + 1, g', Nat.le_succ _, fun q => absurd (e.symm.trans q) (by decide)⟩
          · rcases q8' with ⟨e, e2⟩ | ⟨e, H', L', k', wt', g', -⟩
            · rw [e2]
              rcases qv with qv | qv
              · exact ⟨a, g.1.1, Or.inl qv⟩
              · exact absurd (e.symm.trans qv.1) (by decide)
            · rcases qv with qv | qv
              · exact absurd (e.symm.trans qv.1) (by decide)
              · exact ⟨a + 1, g'.1.1, Or.inr (Or.inl ⟨qv.1, Nat.lt_succ_self a, qv.2⟩)⟩
      · have eo0 := e0 (by have := g.2.2.1.1; omega)
        rw [eo0]
        refine (s_RR_closeInner0 g h).mono (fun x M' q => ?_)
        obtain ⟨e, e2⟩ := q
        have x0 : ruW u a = 0 := by
          rw [eo0] at eo
          unfold csq at eo
          (repeat' split at eo) <;> omega
        rw [e, e2]
        exact ⟨⟨by decide, by decide⟩, h.1, ⟨h, f, Or.inr (Or.inr rfl), H, L, k + 1, 0, a, g, Nat.le_refl _, fun q => absurd q (by decide)⟩, a, g.1.1, Or.inl ⟨rfl, v.shut (k := k) (by rw [g2]; rfl) rfl top4 (Or.inl (by omega)) (fun _ => by rw [x0]; decide) (fun _ => by rw [x0]; decide) (fun _ => by rw [x0]; decide)⟩⟩
    · have y42 : mI M (r + 1) k = 42 := Classical.byContradiction (fun q => y (Or.inr q))
      refine (x_RR_group g h (by rw [y42]; exact Or.inr (Or.inr (Or.inr rfl))) e92).mono (fun M94 q => ?_)
      obtain ⟨qg, qe⟩ := q
      have fq := f.trans (g_rrF qg)
      have bl := v.below (M' := M94) (k := k) (by rw [g2]; rfl) y42 qe.1.1 (qe.2.1 1 (by decide) (by decide))
      obtain ⟨q1, -, -, -, -, -, -, q8', H', L', g', -⟩ := qg
      have v' := v.grp g y42 (Or.inr (Or.inr (Or.inr rfl))) hc (Or.inl (by omega)) (fun _ => by omega) qe g'.1.2.2.2
      refine ⟨q1.1, x_to112 io e0 eo hx0 k M94 H' L' 6 6 q1 fq g' ?_ v' (by decide) (Or.inl hl0)⟩
      intro hk
      refine ⟨?_, ?_⟩
      · rw [q8' (k - 1) (by omega)]
        exact en.2.2.2.2.2.2 (Or.inr y42) (k - 1) (by omega)
      · exact bl.2 (by decide) (k - 1) (by rw [qe.1.1]; omega)
end RXB
end
section
/-! The class's reader: takeOperator, exactly: the whole. -/
theorem fl_pop {o1 x : Int} (h : (19 ≤ o1 ∧ o1 ≤ 31) ∨ o1 = 41) (h0 : 0 ≤ x) (h1 : x ≤ 39) (ht : tgh (csq x) ≤ lvl o1) (c' : Nat) : (lwx x ≤ c' ∨ rsq o1 < lwx x) ∧ (0 < lvl (csq x) → pst o1 < lwx x ∧ cst o1 ≤ lsq (csq x)) ∧ (lvl (csq x) ≤ 0 → cst o1 ≤ 5 ∧ pst o1 ≤ 5) ∧ 1 ≤ cst o1 := by
  have a := op_nums h
  have b := wd_nums h0 h1
  rcases b with b | b | b | b | b | b | b <;> rcases a with a | a | a | a | a | a <;> omega
theorem fl_top {o1 x : Int} (h : opn o1) (n40 : o1 ≠ 40) (h0 : 0 ≤ x) (h1 : x ≤ 39) (hp : 0 < lvl (csq x)) (ht : lvl o1 < tgh (csq x)) (hc : ¬ (lvl (csq x) = 4 ∧ lvl o1 = 4)) : lwx x ≤ rsq o1 := by
  have b := wd_nums h0 h1
  by_cases y : lvl o1 = 0
  · have e : rsq o1 = 6 := by
      rcases opn_0 h y n40 with q | q | q | q | q <;> subst q <;> decide
    omega
  · have a : (19 ≤ o1 ∧ o1 ≤ 31) ∨ o1 = 41 := lvl_pos (by have := lvl_b o1; omega)
    have a := op_nums a
    rcases b with b | b | b | b | b | b | b <;> rcases a with a | a | a | a | a | a <;> omega
section RXC
variable {G : mG} {d z r w T A B D N C n p O P K k a s L V F d0 c c' : Nat} {M0 M M' M1 M2 : mM} {H H' : Nat → Nat} {ns : Nat → Int} {wt o : Int} {u : Ru}
theorem RB.wds (h : RB M0 z r w T A B D N C n p O P K) (f : FI (rdS r p O P) M0 M) : mI M A = mI M0 A ∧ mI M B = mI M0 B ∧ mI M D = mI M0 D ∧ mI M T = mI M0 T := by
  have s := h.2.2.2.2.2.1
  have one : ∀ x, (x = w ∨ x = T ∨ x = A ∨ x = B ∨ x = D) → mI M x = mI M0 x := fun x hx => f.2.2.2.2.2.2 x (fun q => s.2.2 x hx (by
    have q' : (r ≤ x ∧ x ≤ r + 9) ∨ x = p ∨ x = O ∨ x = P := q
    omega))
  exact ⟨one A (by omega), one B (by omega), one D (by omega), one T (by omega)⟩
theorem rtX.i32 {x : Int} (h : rtQ M0 z r w T A B D N C n p O P K s V F ns d0 a x M') : i32 x := by
  rcases h.2.2.1 with e | e | e <;> rw [e] <;> exact ⟨by decide, by decide⟩
theorem x_to36 {l1 : Int} (io : i32 o) (i1 : i32 l1) (e0 : a = n → o = 0) (eo : o = csq (ruW u a)) (hx0 : 0 ≤ ruW u a ∧ ruW u a ≤ 39) (hB0 : mI M0 B a = uP u a) (h00 : RB M0 z r w T A B D N C n p O P K) (hask : Hid ((l1 = 0 → uQ u = 5) ∧ (l1 ≠ 0 → uQ u = 6))) (hz : Hid (lwx (ruW u a) = 3 → Rf (ruW u) (uZ u) a a)) : ∀ (k : Nat) (M : mM) (H : Nat → Nat) (L c c' : Nat), RB M z r w T A B D N C n p O P K → rrF M0 r p O P s M → RG M r p O P n s V F ns d0 H L k a 0 → Hid (0 < k → mI M (r + 1) (k - 1) ≠ 40) → RW0 u M r O P s c c' L a → FL u M r a o c c' → h_RR_takeOperator_36 G (d + 2) r l1 o (lvl o) (tgh o) M (rtX u M0 z r w T A B D N C n p O P K s V F ns d0 a) := by
  have lb := lvl_b o
  have nums := wd_nums hx0.1 hx0.2
  rw [← eo] at nums
  have tb : 1 ≤ tgh o ∧ tgh o ≤ 6 := by
    rcases nums with q | q | q | q | q | q | q <;> omega
  have sgn : Hid (0 < lvl o → (19 ≤ o ∧ o ≤ 31) ∧ ruW u a = o - 1) := fun q => by
    have h39 : o ≤ 39 := by rw [eo]; unfold csq; (repeat' split) <;> omega
    have := lvl_pos q
    have r1 : 19 ≤ o ∧ o ≤ 31 := by omega
    exact ⟨r1, (csq_eq hx0.1 hx0.2 (by omega) h39).mp eo.symm⟩
  have tb2 : Hid (0 < lvl o → tgh o = if lvl o = 4 then 5 else lvl o) := fun q => by
    rcases nums with q1 | q1 | q1 | q1 | q1 | q1 | q1 <;> split <;> omega
  have a33 : Hid (o = 33 → ruW u a = 32) := fun q => (csq_eq (y := 33) hx0.1 hx0.2 (by decide) (by decide)).mp (eo.symm.trans q)
  have lw0 : Hid (lvl o ≤ 0 → lwx (ruW u a) = 0 ∨ (o = 33 ∧ lwx (ruW u a) = 6)) := fun q => by
    rcases nums with q1 | q1 | q1 | q1 | q1 | q1 | q1
    · omega
    · omega
    · omega
    · omega
    · omega
    · exact Or.inl q1.2.2.1
    · refine Or.inr ⟨?_, q1.2.2.1⟩
      rw [eo, q1.2.2.2]
      decide
  have lw5 : Hid (0 < lvl o → lwx (ruW u a) ≤ 5) := fun q => by
    rcases nums with q1 | q1 | q1 | q1 | q1 | q1 | q1 <;> omega
  have q56 : 5 ≤ uQ u := by
    obtain ⟨q1, q2⟩ := (show _ ∧ _ from hask)
    by_cases y : l1 = 0
    · have := q1 y; omega
    · have := q2 y; omega
  clear nums
  have i3 : i32 (lvl o) := i32s (by omega) (by omega)
  have i4 : i32 (tgh o) := i32s (by omega) (by omega)
  have fin : ∀ {k : Nat} {M : mM} {H : Nat → Nat} {L : Nat} {x : Int} {M' : mM}, rrF M0 r p O P s M → RG M r p O P n s V F ns d0 H L k a 0 → sgQ M z r w T A B D N C n p O P K s V F ns d0 H L k a x M' → rtV u r p O P s a x M' → i32 x ∧ mOk M' ∧ rtX u M0 z r w T A B D N C n p O P K s V F ns d0 a x M' := fun {k M H L x M'} f g q hv => by
    have q' := sg_st g f q
    exact ⟨rtX.i32 q', q'.1.1, q', hv⟩
  intro k
  induction k with
  | zero =>
    intro M H L c c' h f g hn v hf
    have g2 := g.1.2.1
    have gn := g.2.2.1.1
    have hBM : mI M B a = uP u a := by rw [(h00.wds f.1).2.1]; exact hB0
    refine k_RR_takeOperator_36 h.1 i1 io i3 i4 ⟨h.2.1.1, fun _ => ⟨fun y => ⟨fun y1 => ?_, fun y1 => ?_⟩, fun y => ?_⟩, fun y => absurd y (by omega)⟩
    · have hl1 : l1 ≠ 0 := by
        rcases y1.2 with q | q
        · exact absurd q (by omega)
        · exact q
      obtain ⟨f1, f2, f3⟩ := hf
      obtain ⟨f31, f32⟩ := f3 y
      have han : a < n := by
        have : a ≠ n := fun q => by have := e0 q; omega
        omega
      refine (x_RR_takeAsk h g han (fun q => absurd q (by omega))).mono (fun x M' q => fin f g q.1 (ask_v g v (a33 y1.1) f31 f32 (Or.inl ⟨g2, (show _ ∧ _ from hask).2 hl1⟩) hBM q.1 q.2))
    · obtain ⟨f1, f2, f3⟩ := hf
      obtain ⟨f31, f32⟩ := f3 y
      refine x_to112 io e0 eo hx0 0 M H L c c' h f g (fun q => absurd q (by omega)) v (by omega) ?_
      rcases (show _ → _ from lw0) y with q | ⟨q1, q2⟩
      · exact Or.inl q
      · refine Or.inr ⟨rfl, ?_⟩
        have : l1 = 0 := Classical.byContradiction (fun q => y1 ⟨q1, Or.inr q⟩)
        rw [(show _ ∧ _ from hask).1 this, q2]
        decide
    · obtain ⟨f1, f2, f3⟩ := hf
      have yp : 0 < lvl o := by omega
      obtain ⟨f21, f22⟩ := f2 yp
      obtain ⟨s1, s2⟩ := (show _ → _ from sgn) yp
      have l5 := (show _ → _ from lw5) yp
      have han : a < n := by
        have : a ≠ n := fun q => by have := e0 q; omega
        omega
      refine (x_RR_takeSign h g s1 han (fun q => absurd q (by omega))).mono (fun x M' q => fin f g q.1 (sgn_v g v s1 s2 f22 f21 (fun _ => ⟨uQ u, Or.inl ⟨g2, rfl⟩, by omega⟩) hz hBM q.1 q.2))
  | succ k ih =>
    intro M H L c c' h f g hn v hf
    have g2 := g.1.2.1
    have gn := g.2.2.1.1
    have rm := g.room
    have en := (g.2.2.2.2.2.2.1 k (by omega)).1
    have hBM : mI M B a = uP u a := by rw [(h00.wds f.1).2.1]; exact hB0
    have n40 : mI M (r + 1) k ≠ 40 := (show 0 < k + 1 → _ from hn) (by omega)
    obtain ⟨-, ⟨k0, ⟨q8, -⟩, ⟨kk1, -⟩, ⟨nn1, -⟩⟩, -⟩ := id h
    have hk1 : mI M r 12 = (k : Int) + 1 := by rw [g2]; rfl
    have hrk : hrs u M r (rsq (mI M (r + 1) k)) := Or.inr ⟨k, hk1, rfl⟩
    refine k_RR_takeOperator_36 h.1 i1 io i3 i4 ?_
    rw [g2, q8, nn1, show (((k + 1 : Nat) : Int) - 1).toNat = k by first | rfl | omega]
    refine ⟨k0, fun y => absurd y (by omega), fun _ => ⟨kk1, by omega, (s_RR_level (h.1 _ _).1 h.1).mono (fun x M39 q => ?_)⟩⟩
    obtain ⟨e39, ex⟩ := q
    subst e39
    have bx := lvl_b (mI M39 (r + 1) k)
    rw [g2]
    refine ⟨by rw [ex]; exact i32s (by omega) (by omega), h.1, fun y => ⟨fun y3 => ⟨fun _ => k0, fun y1 => ⟨k0, ?_⟩, fun y1 => ?_⟩, fun y3 => ⟨k0, ?_⟩⟩, fun y => ⟨k0, ⟨by omega, by omega⟩, fun M72 e72 => ?_⟩⟩
    · obtain ⟨f1, f2, f3⟩ := hf
      obtain ⟨f31, f32⟩ := f3 y3
      have t1 : tgh o = 1 := by unfold tgh; rw [if_neg (by omega), if_pos (by omega)]
      have l0 : lvl (mI M39 (r + 1) k) = 0 := by omega
      have r6 : rsq (mI M39 (r + 1) k) = 6 := by
        rcases opn_0 en l0 n40 with q | q | q | q | q <;> rw [q] <;> decide
      have han : a < n := by
        have : a ≠ n := fun q => by have := e0 q; omega
        omega
      refine (x_RR_takeAsk h g han (fun _ => by rw [show k + 1 - 1 = k by first | rfl | omega]; exact l0)).mono (fun x M' q => fin f g q.1 (ask_v g v (a33 y1.1) f31 f32 (by rw [r6] at hrk; exact hrk) hBM q.1 q.2))
    · obtain ⟨f1, f2, f3⟩ := hf
      obtain ⟨f31, f32⟩ := f3 y3
      have t1 : tgh o = 1 := by unfold tgh; rw [if_neg (by omega), if_pos (by omega)]
      have l0 : lvl (mI M39 (r + 1) k) = 0 := by omega
      refine x_to112 io e0 eo hx0 (k + 1) M39 H L c c' h f g (fun _ => ⟨l0, n40⟩) v (by omega) (Or.inl ?_)
      rcases (show _ → _ from lw0) y3 with q | ⟨q1, q2⟩
      · exact q
      · exact absurd ⟨q1, Or.inl (by omega)⟩ y1
    · obtain ⟨f1, f2, f3⟩ := hf
      have yp : 0 < lvl o := by omega
      obtain ⟨f21, f22⟩ := f2 yp
      obtain ⟨s1, s2⟩ := (show _ → _ from sgn) yp
      have han : a < n := by
        have : a ≠ n := fun q => by have := e0 q; omega
        omega
      have tt := (show _ → _ from tb2) yp
      rw [ex] at y
      refine (x_RR_takeSign h g s1 han (fun _ => by rw [show k + 1 - 1 = k by first | rfl | omega, ← tt]; exact y)).mono (fun x M' q => fin f g q.1 (sgn_v g v s1 s2 f22 f21 (fun nc => ⟨_, hrk, ?_⟩) hz hBM q.1 q.2))
      refine fl_top en n40 hx0.1 hx0.2 (by rw [← eo]; exact yp) (by rw [← eo]; exact y) (fun q => nc ⟨by rw [eo]; exact q.1, Nat.succ_pos k, by rw [show k + 1 - 1 = k by first | rfl | omega]; exact q.2⟩)
    · rw [ex] at y
      have lp := lvl_pos (o := mI M39 (r + 1) k) (by omega)
      have gp : grpO (mI M39 (r + 1) k) := by
        rcases lp with q | q
        · exact Or.inl q
        · exact Or.inr (Or.inr (Or.inl q))
      obtain ⟨p1, p2, p3, p4⟩ := fl_pop lp hx0.1 hx0.2 (by rw [← eo]; omega) c'
      rw [← eo] at p2 p3
      obtain ⟨f1, f2, f3⟩ := hf
      refine (x_RR_group g h gp e72).mono (fun M74 q => ?_)
      obtain ⟨qg, qe⟩ := q
      have fq := f.trans (g_rrF qg)
      have bl := v.below (M' := M74) (k := k) hk1 rfl qe.1.1 (qe.2.1 1 (by decide) (by decide))
      obtain ⟨q1, -, -, -, -, -, -, -, H', L', g', -⟩ := qg
      have v' := v.grp g rfl gp (f1 _ hrk) p1 (fun q => absurd lp (by rw [q]; decide)) qe g'.1.2.2.2
      exact ⟨q1.1, ih M74 H' L' _ _ q1 fq g' (fun hk => bl.2 p4 (k - 1) (by rw [qe.1.1]; omega)) v' ⟨bl.1, p2, p3⟩⟩
theorem x_RR_takeOperator {l1 : Int} (i1 : i32 l1) (h : RB M z r w T A B D N C n p O P K) (g : RG M r p O P n s V F ns d0 H L k a 0) (hWQ : WQ u M A B n) (hask : Hid ((l1 = 0 → uQ u = 5) ∧ (l1 ≠ 0 → uQ u = 6))) (hz : Hid (∀ j, lwx (ruW u j) = 3 → Rf (ruW u) (uZ u) j j)) (hn : Hid (0 < k → mI M (r + 1) (k - 1) ≠ 40)) (v : RW0 u M r O P s 0 0 L a) : Ci G y_RR_takeOperator (d + 3) [vr r, vi l1] M (rtX u M z r w T A B D N C n p O P K s V F ns d0 a) := by
  have g1 := g.1.1
  have gn := g.2.2.1.1
  obtain ⟨w1', w2', w3'⟩ := hWQ a gn
  obtain ⟨-, ⟨k0, -⟩, ⟨r0, -⟩, hW, -⟩ := id h
  obtain ⟨⟨w1, ⟨p0, p3, p4, p5⟩, -, ⟨k3, k4, k5⟩, ⟨c3, c4, c5⟩, w6, w7, w8, -⟩, e2, hnN, hw, hA, hB⟩ := id hW
  refine k_RR_takeOperator h.1 i1 ?_
  rw [r0, p3, g1, c3, Int.toNat_natCast]
  refine ⟨k0, w1, k3, by omega, (s_RR_level (h.1 _ _).1 h.1).mono (fun x M5 q => ?_)⟩
  obtain ⟨e5, ex⟩ := q
  subst e5
  subst ex
  have lb := lvl_b (mI M5 A a)
  refine ⟨i32s (by omega) (by omega), h.1, fun v9 e9 => ?_⟩
  subst e9
  refine x_to36 (h.1 _ _).1 i1 (fun q => by rw [q]; exact hA) w2' w1' w3' h hask ((show ∀ j, _ from hz) a) k M5 H L 0 0 h rrF.refl g hn v ⟨fun y _ => Nat.zero_le y, fun q => ⟨?_, Nat.zero_le _⟩, fun _ => ⟨by decide, by decide⟩⟩
  rw [w2'] at q
  have nums := wd_nums w1'.1 w1'.2
  rcases nums with q1 | q1 | q1 | q1 | q1 | q1 | q1 <;> omega
end RXC
end
section
/-! The class's reader: names, exactly. -/
/-- two words are spelt alike: v and x, letters at T, starts at B, lengths at D -/
def swq (M : mM) (T B D : Nat) (v x : Nat) : Prop := mI M D x = mI M D v ∧ ∀ i : Nat, (i : Int) < mI M D v → mI M T ((mI M B x).toNat + i) = mI M T ((mI M B v).toNat + i)
/-- the i-th name is the first that is spelt as v -/
def fm (M : mM) (r T B D c v i : Nat) : Prop := i < c ∧ swq M T B D v (mI M (r + 6) i).toNat ∧ ∀ j, j < i → ¬ swq M T B D v (mI M (r + 6) j).toNat
/-- no name is spelt as v -/
def nmn (M : mM) (r T B D c v : Nat) : Prop := ∀ j, j < c → ¬ swq M T B D v (mI M (r + 6) j).toNat
section RX6
variable {G : mG} {d z r w T A B D N C n p O P K k a a' s L L1 V F d0 c : Nat} {M0 M M' M1 M2 : mM} {H H1 : Nat → Nat} {ns : Nat → Int} {wt : Int}
theorem x_Wo_same {p q z : Nat} (hO : mOk M) (h : WA M w T A B D N C) (hp : p + z ≤ N) (hq : q + z ≤ N) : Ci G y_Wo_same d [vr w, vi p, vi q, vi z] M (fun r M' => M' = M ∧ (r = 0 ∨ r = 1) ∧ (r ≠ 0 ↔ ∀ i, i < z → mI M T (p + i) = mI M T (q + i))) := by
  obtain ⟨h1, ⟨p0, p3, p4, p5⟩, ⟨kT, nT⟩, -, -, h6, h7, h8, -⟩ := id h
  refine k_Wo_same hO (i32s (by omega) (by omega)) (i32s (by omega) (by omega)) (i32s (by omega) (by omega)) ?_
  suffices H : ∀ (t i : Nat), z ≤ i + t → i ≤ z → (∀ j, j < i → mI M T (p + j) = mI M T (q + j)) → h_Wo_same_3 G d w p q z i M (fun r M' => M' = M ∧ (r = 0 ∨ r = 1) ∧ (r ≠ 0 ↔ ∀ i, i < z → mI M T (p + i) = mI M T (q + i))) from H z 0 (by omega) (by omega) (fun j hj => by omega)
  intro t
  induction t with
  | zero =>
    intro i hi hiz hj
    exact k_Wo_same_3 hO (i32s (by omega) (by omega)) (i32s (by omega) (by omega)) (i32s (by omega) (by omega)) (i32s (by omega) (by omega)) ⟨fun _ => ⟨rfl, Or.inr rfl, fun _ j jz => hj j (by omega), fun _ => by decide⟩, fun y => absurd (by omega) y⟩
  | succ t ih =>
    intro i hi hiz hj
    refine k_Wo_same_3 hO (i32s (by omega) (by omega)) (i32s (by omega) (by omega)) (i32s (by omega) (by omega)) (i32s (by omega) (by omega)) ⟨fun y => ⟨rfl, Or.inr rfl, fun _ j jz => hj j (by omega), fun _ => by decide⟩, fun y => ?_⟩
    rw [p0]
    have e1 : ((p : Int) + i).toNat = p + i := by omega
    have e2 : ((q : Int) + i).toNat = q + i := by omega
    rw [e1, e2]
    refine ⟨h1, kT, by omega, by omega, fun e => ih (i + 1) (by omega) (by omega) (fun j hj2 => ?_), fun e => ⟨rfl, Or.inl rfl, fun q => absurd rfl q, fun q => absurd (q i (by omega)) e⟩⟩
    by_cases y2 : j = i
    · rw [y2]; exact e
    · exact hj j (by omega)

theorem x_RR_find {v : Nat} (h : RB M z r w T A B D N C n p O P K) (nk : NK M r A n V F ns c) (hv : v < n) (h2 : mI M A v = 2) : Ci G y_RR_find (d + 1) [vr r, vi v] M (fun x M' => M' = M ∧ ((x = -1 ∧ nmn M r T B D c v) ∨ ∃ i : Nat, x = i ∧ fm M r T B D c v i)) := by
  obtain ⟨-, ⟨k0, ⟨-, -, -, -, -, q15, -⟩, ⟨-, -, -, -, -, kk6, -⟩, ⟨-, -, -, -, -, nn6, -⟩⟩, ⟨r0, -⟩, hW, -⟩ := id h
  obtain ⟨hWA, e2, hnN, hw, hA, hB⟩ := id hW
  obtain ⟨w1, ⟨p0, p3, p4, p5⟩, -, ⟨k3, k4, k5⟩, ⟨c3, c4, c5⟩, w6, w7, w8, -⟩ := id hWA
  obtain ⟨n1, n2, n3⟩ := nk
  obtain ⟨-, ⟨sv0, -⟩, am, -⟩ := hw v hv
  have am2 := am h2
  have dv := (h.1 D v).1
  refine k_RR_find h.1 (i32s (by omega) (by omega)) ?_
  rw [r0, p5, c5, Int.toNat_natCast]
  refine ⟨k0, w1, k5, by omega, ?_⟩
  suffices HH : ∀ (t i : Nat), c ≤ i + t → i ≤ c → Hid (∀ j, j < i → ¬ swq M T B D v (mI M (r + 6) j).toNat) → h_RR_find_12 G d r v (mI M D v) i M (fun x M' => M' = M ∧ ((x = -1 ∧ nmn M r T B D c v) ∨ ∃ i : Nat, x = i ∧ fm M r T B D c v i)) from HH c 0 (by omega) (by omega) (fun j hj => by omega)
  intro t
  induction t with
  | zero =>
    intro i hi hc hj
    exact k_RR_find_12 h.1 (i32s (by omega) (by omega)) dv (i32s (by omega) (by omega)) ⟨k0, fun _ => ⟨rfl, Or.inl ⟨rfl, fun j jc => (show ∀ j, _ from hj) j (by omega)⟩⟩, fun y => absurd y (by omega)⟩
  | succ t ih =>
    intro i hi hc hj
    refine k_RR_find_12 h.1 (i32s (by omega) (by omega)) dv (i32s (by omega) (by omega)) ⟨k0, fun _ => ⟨rfl, Or.inl ⟨rfl, fun j jc => (show ∀ j, _ from hj) j (by omega)⟩⟩, fun y => ?_⟩
    have hic : i < c := by omega
    obtain ⟨⟨u, eu, un, u2⟩, -⟩ := n3 i hic
    obtain ⟨-, ⟨su0, -⟩, amu, -⟩ := hw u un
    have amu2 := amu u2
    rw [q15, nn6, r0, p5, c5, p4, c4, Int.toNat_natCast, eu, Int.toNat_natCast, Int.toNat_natCast]
    have nxt : ¬ swq M T B D v u → Hid (∀ j, j < i + 1 → ¬ swq M T B D v (mI M (r + 6) j).toNat) := fun q j ji => by
      by_cases y2 : j = i
      · rw [y2, eu, Int.toNat_natCast]; exact q
      · exact (show ∀ j, _ from hj) j (by omega)
    refine ⟨kk6, by omega, w1, k5, by omega, fun e => ⟨k4, by omega, by omega, ?_⟩, fun e => ih (i + 1) (by omega) (by omega) (nxt (fun q => e q.1))⟩
    obtain ⟨su, esu⟩ : ∃ x : Nat, mI M B u = x := ⟨(mI M B u).toNat, by omega⟩
    obtain ⟨sv, esv⟩ : ∃ x : Nat, mI M B v = x := ⟨(mI M B v).toNat, by omega⟩
    obtain ⟨sz, esz⟩ : ∃ x : Nat, mI M D v = x := ⟨(mI M D v).toNat, by omega⟩
    rw [esu, esv, esz]
    refine (x_Wo_same h.1 hWA (by omega) (by omega)).mono (fun x M' q => ?_)
    obtain ⟨e', hx, hx2⟩ := q
    have key : x ≠ 0 ↔ swq M T B D v u := by
      rw [hx2]
      unfold swq
      rw [esu, esv, esz, Int.toNat_natCast, Int.toNat_natCast]
      refine ⟨fun q => ⟨by rw [← esz]; exact e, fun i hi => q i (by omega)⟩, fun q i hi => q.2 i (by omega)⟩
    clear hx2
    rw [e']
    rw [← esz]
    exact ⟨i32s (by omega) (by omega), h.1, fun q => ih (i + 1) (by omega) (by omega) (nxt (fun q2 => (key.mpr q2) q)), fun q => ⟨rfl, Or.inr ⟨i, rfl, hic, by rw [eu, Int.toNat_natCast]; exact key.mp q, hj⟩⟩⟩

end RX6
end
section
/-! The class's reader: takeOperand, exactly. -/
/-- what the rule's words stand for, as the reader's tables have it -/
def UQ (u : Ru) (M : mM) (r T A B D n c : Nat) : Prop := WQ u M A B n ∧ ∀ v, v < n → (ruW u v = 2 → uC u v = (3, mI M D v)) ∧ (ruW u v = 12 → uC u v = (3, 1)) ∧ (ruW u v = 13 → uC u v = (3, 0)) ∧ (ruW u v = 1 → (nmn M r T B D c v → uE u v = -1 ∧ uC u v = (3, 0)) ∧ ∀ i, fm M r T B D c v i → ((mI M r 6 ≠ 0 ∧ mI M (r + 7) i ≠ 4) → uE u v = -1 ∧ uC u v = (3, 0)) ∧ (¬ (mI M r 6 ≠ 0 ∧ mI M (r + 7) i ≠ 4) → uE u v = mI M (r + 9) i ∧ uC u v = (mI M (r + 7) i, mI M (r + 8) i)))
section RXD
variable {G : mG} {d z r w T A B D N C n p O P K k a a' s L L1 V F d0 c kk : Nat} {M0 M M' M1 M2 M22 : mM} {H H1 H' : Nat → Nat} {ns : Nat → Int} {wt o x t : Int} {u : Ru}
theorem UQ.rr (q : UQ u M r T A B D n c) (h : RB M z r w T A B D N C n p O P K) (f : rrF M r p O P s M') : UQ u M' r T A B D n c := by
  obtain ⟨hA, hB, hD, hT⟩ := h.wds f.1
  obtain ⟨-, f2, -, f4, -⟩ := f
  unfold UQ WQ nmn fm swq at q ⊢
  rw [hA, hB, hD, hT, f2 6 (by decide) (by decide) (by decide) (by decide) (by decide) (by decide) (by decide), f4 6 (by omega) (by omega), f4 7 (by omega) (by omega), f4 8 (by omega) (by omega), f4 9 (by omega) (by omega)]
  exact q
theorem RW1.same (v : RW1 u M r O P s L a) (hr : ∀ i, i ≠ 2 → mI M' r i = mI M r i) (hT : ∀ i, 1 ≤ i → i ≤ 5 → mI M' (r + i) = mI M (r + i)) (hO : mI M' O = mI M O) (hP : mI M' P = mI M P) : RW1 u M' r O P s L a := by
  obtain ⟨gs, od, mq, kn, ft, q1, q2, q3, q4⟩ := v
  refine ⟨gs, od, mq, kn, ft, q1.keep (hr 12 (by decide)) (fun i i1 i4 => hT i i1 (by omega)) (by rw [hT 5 (by decide) (by decide)]; exact q1.1.2.2.2.2) (by rw [hr 14 (by decide)]; exact q1.2.1.2) (q1.2.2.2.1.same (hr 3 (by decide)) (hr 4 (by decide))) (hr 5 (by decide)), by rw [hO, hP]; exact q2, q3, q4⟩
/-- a value is read -/
theorem val_v (v : RW1 u M r O P s L a) (hw : ruW u a = 1 ∨ ruW u a = 2 ∨ ruW u a = 12 ∨ ruW u a = 13) (hkk : mI M r 14 = kk) (s1 : mI M22 r 12 = mI M r 12 ∧ mI M22 r 5 = mI M r 5 ∧ mI M22 r 14 = mI M r 14) (s2 : ∀ i, 1 ≤ i → i ≤ 5 → mI M22 (r + i) = mI M (r + i)) (s3 : mI M22 O = mI M O ∧ mI M22 P = mI M P) (hF : Fqq M r (fl (ruW u) (uE u) (uP u) 0 a (a + 1)) M22) (ht : t = kdq (ruW u) (uE u) 0 a (a + 1)) (ho : uC u a = (o, x)) (e1 : (∀ i, 1 ≤ i → i ≤ 4 → mI M' (r + i) = mI M22 (r + i)) ∧ mI M' r 14 = mI M22 r 14 + 1 ∧ (∀ (c : Nat), mI M22 r 14 = c → ∀ i, mI M' (r + 5) i = if i = c then t else mI M22 (r + 5) i) ∧ (∀ i, mI M' O i = if i = L then o else mI M22 O i) ∧ (∀ i, mI M' P i = if i = L then x else mI M22 P i)) (e2 : ∀ i, i ≠ 2 → i ≠ 7 → i ≠ 14 → mI M' r i = mI M22 r i) (g' : RG M' r p O P n s V F ns d0 H' (L + 1) k (a + 1) 0) : rtV u r p O P s a 0 M' := by
  obtain ⟨q1, q2, q3, q4, q5⟩ := e1
  obtain ⟨⟨i1, -, i3, i4⟩, -⟩ := g'
  have v0 : RW0 u M' r O P s 0 0 (L + 1) (a + 1) := v.val (kk := kk) hw (by rw [e2 12 (by decide) (by decide) (by decide)]; exact s1.1) (by rw [e2 5 (by decide) (by decide) (by decide)]; exact s1.2.1) hkk (by rw [q2, s1.2.2, hkk]) (fun i j1 j4 => by rw [q1 i j1 j4, s2 i j1 (by omega)]) (fun i => by rw [q3 kk (by rw [s1.2.2]; exact hkk) i, s2 5 (by decide) (by decide), ht]) (fun i => by rw [q4, s3.1, ho]) (fun i => by rw [q5, s3.2, ho]) (hF.later (e2 3 (by decide) (by decide) (by decide)) (e2 4 (by decide) (by decide) (by decide)))
  refine ⟨a + 1, i1, Or.inr (Or.inl ⟨rfl, Nat.lt_succ_self a, fun L' hL' => ⟨fun _ => ?_, fun q => absurd (i3.symm.trans q) (by decide)⟩⟩)⟩
  have : L' = L + 1 := by rw [i4] at hL'; exact (Int.ofNat_inj.mp hL').symm
  rw [this]
  exact v0
/-- something is opened -/
theorem lvl_v (v : RW1 u M r O P s L a) (ho : (o = 37 ∧ ruW u a = 36) ∨ (o = 40 ∧ ruW u a = 25) ∨ (o = 41 ∧ ruW u a = 31)) (hm : o = 41 → myd M r) (g : RG M r p O P n s V F ns d0 H L k a 1) (q : lvQ M z r w T A B D N C n p O P K s V F ns d0 H L k a x M') (e : (x = 2 ∧ ¬ mI M r 5 < 40) ∨ (x = 0 ∧ mI M r 5 < 40 ∧ pshE M r k o (uP u a) (-1) 0 (mI M r 5 + 1) (mI M r 14) M')) : rtV u r p O P s a x M' := by
  obtain ⟨⟨g1, g2, g3, g4⟩, -⟩ := g
  obtain ⟨-, -, -, -, ⟨q5, q6, q7⟩, q8⟩ := q
  rcases e with ⟨e1, e2⟩ | ⟨e1, e2, ⟨f1, f2, f3, f4, f5⟩, t1, t2, t3, t4, t5⟩
  · rcases q8 with ⟨-, q8⟩ | ⟨q8, -⟩
    · subst q8
      refine ⟨a, g1, Or.inl ⟨e1, v.no ⟨by omega, fun _ => e2, fun _ h => e2 h.2⟩⟩⟩
    · omega
  · rcases q8 with ⟨q8, -⟩ | ⟨-, g'⟩
    · omega
    obtain ⟨⟨i1, -, i3, i4⟩, -⟩ := g'
    exact rtv_1 (Nat.le_refl a) (L9 := L) e1 i3 i1 i4 (v.lvl (k := k) ho hm e2 g2 f1 f2 f3 f4 f5 t1 t2 t3 t4 t5 q6 q7)
theorem fl_ok (hw : ruW u a = 2 ∨ ruW u a = 12 ∨ ruW u a = 13 ∨ (ruW u a = 1 ∧ uE u a ≠ -1)) : fl (ruW u) (uE u) (uP u) 0 a (a + 1) = (0, 0) := by
  rw [fl_leaf (eo_leaf_lo (by omega)) (by omega) (by omega), if_neg (by omega)]
theorem fl_bad (hw : ruW u a = 1 ∧ uE u a = -1) : fl (ruW u) (uE u) (uP u) 0 a (a + 1) = (2, uP u a) := by
  rw [fl_leaf (eo_leaf_lo (by omega)) (by omega) (by omega), if_pos hw]
theorem x_RR_takeOperand (h : RB M z r w T A B D N C n p O P K) (g : RG M r p O P n s V F ns d0 H L k a 1) (nk : NK M r A n V F ns c) (hUQ : UQ u M r T A B D n c) (v : RW1 u M r O P s L a) : Ci G y_RR_takeOperand (d + 3) [vr r] M (rtX u M z r w T A B D N C n p O P K s V F ns d0 a) := by
  have g1 := g.1.1
  have gn := g.2.2.1.1
  have rm := g.room
  obtain ⟨kk, hkk⟩ : ∃ kk : Nat, mI M r 14 = kk := ⟨_, g.2.2.2.1⟩
  obtain ⟨wa1, wa2, wa3⟩ := hUQ.1 a gn
  have wq : ∀ y : Int, 2 ≤ y → y ≤ 39 → mI M A a = y → ruW u a = y - 1 := fun y y1 y2 e => (csq_eq wa1.1 wa1.2 y1 y2).mp (wa2.symm.trans e)
  have wn : ∀ y : Int, 2 ≤ y → y ≤ 39 → ¬ mI M A a = y → ruW u a ≠ y - 1 := fun y y1 y2 e q => e (wa2.trans ((csq_eq wa1.1 wa1.2 y1 y2).mpr q))
  clear wa2
  obtain ⟨-, ⟨k0, ⟨-, -, -, -, -, q15, q16, q17, q18⟩, ⟨-, -, -, -, -, kk6, kk7, kk8, kk9⟩, ⟨-, -, -, -, -, nn6, nn7, nn8, nn9⟩⟩, ⟨r0, -⟩, hW, -⟩ := id h
  obtain ⟨⟨w1, ⟨p0, p3, p4, p5⟩, -, ⟨k3, k4, k5⟩, ⟨c3, c4, c5⟩, w6, w7, w8, -⟩, e2, hnN, hw, hA, hB⟩ := id hW
  have nend : ∀ {x : Int}, mI M A a = x → x ≠ 0 → a < n := fun {x} e e0 => by
    have : a ≠ n := fun q => by rw [q, hA] at e; omega
    omega
  refine k_RR_takeOperand h.1 ?_
  rw [r0, p3, g1, c3, Int.toNat_natCast]
  refine ⟨k0, w1, k3, by omega, (s_RR_here h g1 gn).mono (fun x6 M5 q => ?_)⟩
  obtain ⟨e5, ex6, x0, x1⟩ := q
  subst e5
  rw [wa3] at ex6
  rw [r0, p5, g1, c5, Int.toNat_natCast]
  have i6 : i32 x6 := i32s (by omega) (by omega)
  have same5 : (mI M5 r 12 = mI M5 r 12 ∧ mI M5 r 5 = mI M5 r 5 ∧ mI M5 r 14 = mI M5 r 14) ∧ (∀ i, 1 ≤ i → i ≤ 5 → mI M5 (r + i) = mI M5 (r + i)) ∧ (mI M5 O = mI M5 O ∧ mI M5 P = mI M5 P) := ⟨⟨rfl, rfl, rfl⟩, fun _ _ _ => rfl, rfl, rfl⟩
  refine ⟨i6, h.1, fun y2 => ⟨k0, ?_⟩, fun y2 => ⟨fun y3 => ⟨k0, w1, k5, by omega, ?_⟩, fun y3 => ⟨fun y13 v57 e57 => ⟨k0, ?_⟩, fun y13 => ⟨fun y15 => ⟨k0, ⟨by omega, by omega⟩, fun M70 e70 => ?_⟩, fun y15 => ⟨fun y26 => ⟨k0, ?_⟩, fun y26 => ⟨fun y32 => ⟨k0, ?_⟩, fun y32 => ⟨fun y37 => ⟨k0, ?_⟩, fun y37 => ?_⟩⟩⟩⟩⟩⟩⟩
  · have han := nend y2 (by omega)
    have ww : ruW u a = 1 := wq 2 (by decide) (by decide) y2
    obtain ⟨-, -, -, un⟩ := hUQ.2 a han
    obtain ⟨un1, un2⟩ := un ww
    refine (x_RR_find h nk han y2).mono (fun x11 M10 q => ?_)
    obtain ⟨e10, hx⟩ := q
    subst e10
    rw [q16, q17, q18, nn7, nn8, nn9]
    have bx : i32 x11 ∧ (x11 ≠ -1 → ∃ i : Nat, x11 = i ∧ fm M10 r T B D c a i) := by
      have hc := nk.2.1
      rcases hx with ⟨q, -⟩ | ⟨i, q, hi⟩
      · exact ⟨by rw [q]; exact i32s (by omega) (by omega), fun q2 => absurd q q2⟩
      · have := hi.1
        exact ⟨by rw [q]; exact i32s (by omega) (by omega), fun _ => ⟨i, q, hi⟩⟩
    have hc := nk.2.1
    refine ⟨bx.1, h.1, fun y => ⟨k0, fun _ => ⟨kk7, ?_⟩⟩, fun y => ⟨k0, (x_RR_note (i32s (by omega) (by omega)) i6 h).mono (fun M22 q => ?_)⟩, fun y => ?_⟩
    · obtain ⟨i, ei, hi⟩ := bx.2 y
      have := hi.1
      omega
    · have bad : uE u a = -1 ∧ uC u a = (3, 0) := by
        rcases hx with ⟨-, q⟩ | ⟨i, q1, q2⟩
        · exact un1 q
        · rw [q1, Int.toNat_natCast] at y
          refine (un2 i q2).1 ?_
          rcases y with y | y
          · omega
          · exact y
      obtain ⟨h22, f22, r22, t22, t22', F22'⟩ := q
      have n22 : ∀ b, b ≠ r → mI M22 b = mI M10 b := fun b hb => f22.2.2.2.2.2.2 b hb
      obtain ⟨oO, oP, op, -⟩ := h.off
      replace oO : Hid0 _ := oO
      replace oP : Hid0 _ := oP
      replace op : Hid0 _ := op
      have F22 : FI (rdS r p O P) M10 M22 := f22.mono (fun b q => Or.inl (by have q' : b = r := q; omega))
      have g22 := g.cg (M' := M22) (a' := a) (by rw [r22 2 (by decide) (by decide)]; exact g1) (Nat.le_refl _) gn (r22 12 (by decide) (by decide)) (r22 7 (by decide) (by decide)) (r22 14 (by decide) (by decide)) (r22 5 (by decide) (by decide)) (fun i i1 i5 => n22 (r + i) (by omega)) (by rw [n22 p (by first | exact op | exact off0 op | exact off9 op (by decide) | exact off4 op | exact fun q => e1 q.symm | exact fun q => e2 q.symm | omega)]) (n22 O (by first | exact oO | exact off0 oO | exact off9 oO (by decide) | exact off4 oO | exact e1 | exact e3 | omega)) (n22 P (by first | exact oP | exact off0 oP | exact off9 oP (by decide) | exact off4 oP | exact e2 | exact fun q => e3 q.symm | omega))
      have rf : rrF M10 r p O P s M22 := ⟨F22, fun i _ i3 i4 _ _ _ _ => r22 i i3 i4, t22', fun i i6 i9 => n22 (r + i) (by omega), fun i _ => by rw [n22 p (by first | exact op | exact off0 op | exact off9 op (by decide) | exact off4 op | exact fun q => e1 q.symm | exact fun q => e2 q.symm | omega)], fun i _ => ⟨by rw [n22 O (by first | exact oO | exact off0 oO | exact off9 oO (by decide) | exact off4 oO | exact e1 | exact e3 | omega)], by rw [n22 P (by first | exact oP | exact off0 oP | exact off9 oP (by decide) | exact off4 oP | exact e2 | exact fun q => e3 q.symm | omega)]⟩⟩
      have sm : ∀ i, 1 ≤ i → i ≤ 5 → mI M22 (r + i) = mI M10 (r + i) := fun i i1 _ => n22 (r + i) (by omega)
      have so : mI M22 O = mI M10 O ∧ mI M22 P = mI M10 P := ⟨n22 O (by first | exact oO | exact off0 oO | exact off9 oO (by decide) | exact off4 oO | exact e1 | exact e3 | omega), n22 P (by first | exact oP | exact off0 oP | exact off9 oP (by decide) | exact off4 oP | exact e2 | exact fun q => e3 q.symm | omega)⟩
      have kv : (0 : Int) = kdq (ruW u) (uE u) 0 a (a + 1) := by rw [kd_nam (eo_leaf_lo (Or.inl ww)) (Nat.lt_succ_self a) ww, if_neg (by rw [bad.1]; decide)]
      refine ⟨h22.1, h22.2.1.1, (x_RR_takeValue (i32s (by omega) (by omega)) (i32s (by omega) (by omega)) (Or.inl rfl) h22 g22 han (fun H' e => Or.inl ⟨rfl, by omega, by omega, e⟩) (by unfold jm; omega)).mono (fun x M' q => ?_)⟩
      obtain ⟨qe, qr⟩ := q
      obtain ⟨r1, r2, r3⟩ := v_rt g22 rf qr
      obtain ⟨ey, -, -, e4, -, -, -, H', g', -⟩ := qr
      subst ey
      exact ⟨r1, r2, r3, val_v v (Or.inl ww) hkk ⟨r22 12 (by decide) (by decide), r22 5 (by decide) (by decide), r22 14 (by decide) (by decide)⟩ sm so (by rw [fl_bad ⟨ww, bad.1⟩, ← ex6]; exact F22' (by decide)) kv bad.2 qe e4 g'⟩
    · have nx : x11 ≠ -1 := fun q => y (Or.inl q)
      obtain ⟨i, ei, hfi⟩ := bx.2 nx
      have hi := hfi.1
      obtain ⟨-, ni, nt⟩ := nk.2.2 i hi
      rw [ei, Int.toNat_natCast] at y
      have y6 : mI M10 r 6 = 0 ∨ mI M10 (r + 7) i = 4 := by
        by_cases u6 : mI M10 r 6 = 0
        · exact Or.inl u6
        · by_cases u4 : mI M10 (r + 7) i = 4
          · exact Or.inr u4
          · exact absurd (Or.inr ⟨u6, u4⟩) y
      have gd := (un2 i hfi).2 (fun q => y (Or.inr q))
      rw [ei, Int.toNat_natCast]
      have kv : mI M10 (r + 9) i = kdq (ruW u) (uE u) 0 a (a + 1) := by
        rw [kd_nam (eo_leaf_lo (Or.inl ww)) (Nat.lt_succ_self a) ww, gd.1]
        rcases nt with q | q <;> rw [q] <;> decide
      have nE : uE u a ≠ -1 := by
        rw [gd.1]
        rcases nt with q | q <;> rw [q] <;> decide
      refine ⟨k0, kk7, by omega, kk8, by omega, kk9, by omega, (x_RR_takeValue (h.1 _ _).1 (h.1 _ _).1 nt h g han (fun H' e => ?_) ?_).mono (fun x M' q => ?_)⟩
      · rcases ni with ⟨u1, u2, u3⟩ | ⟨u1, u2, u3, u4⟩ | ⟨u1, u2, u3⟩
        · exact Or.inr (Or.inr (Or.inl ⟨u1, u2, u3 (y6.resolve_right (by omega)), e⟩))
        · exact Or.inr (Or.inl ⟨Or.inl u1, u2, u3, by rw [u4, u1], e⟩)
        · have u6 := u3 (y6.resolve_right (by omega))
          exact Or.inr (Or.inl ⟨Or.inr u1, u2, u6.1, by rw [u6.2, u1], e⟩)
      · unfold jm
        clear nk bx hx y y6
        rcases ni with ⟨u1, -⟩ | ⟨u1, -⟩ | ⟨u1, -⟩ <;> omega
      · obtain ⟨qe, qr⟩ := q
        obtain ⟨r1, r2, r3⟩ := v_rt g rrF.refl qr
        obtain ⟨ey, -, -, e4, -, -, -, H', g', -⟩ := qr
        subst ey
        exact ⟨r1, r2, r3, val_v v (Or.inl ww) hkk same5.1 same5.2.1 same5.2.2 (by rw [fl_ok (Or.inr (Or.inr (Or.inr ⟨ww, nE⟩)))]; exact Fq_none rfl rfl) kv gd.2 qe e4 g'⟩
  · have han := nend y3 (by omega)
    have ww : ruW u a = 2 := wq 3 (by decide) (by decide) y3
    have uc := (hUQ.2 a han).1 ww
    have am := (hw a han).2.2.2 y3
    refine (x_RR_takeValue (i32s (by omega) (by omega)) (h.1 _ _).1 (Or.inl rfl) h g han (fun H' e => Or.inl ⟨rfl, by omega, by omega, e⟩) (by unfold jm; omega)).mono (fun x M' q => ?_)
    obtain ⟨qe, qr⟩ := q
    obtain ⟨r1, r2, r3⟩ := v_rt g rrF.refl qr
    obtain ⟨ey, -, -, e4, -, -, -, H', g', -⟩ := qr
    subst ey
    exact ⟨r1, r2, r3, val_v v (Or.inr (Or.inl ww)) hkk same5.1 same5.2.1 same5.2.2 (by rw [fl_ok (Or.inl ww)]; exact Fq_none rfl rfl) (kd_num (eo_leaf_lo (Or.inr (Or.inl ww))) (Nat.lt_succ_self a) (Or.inr (Or.inl ww))).symm uc qe e4 g'⟩
  · have han : a < n := by
      rcases y13 with q | q
      · exact nend q (by omega)
      · exact nend q (by omega)
    have uc : uC u a = (3, v57) ∧ (ruW u a = 12 ∨ ruW u a = 13) := by
      rcases y13 with q | q
      · have ww : ruW u a = 12 := wq 13 (by decide) (by decide) q
        rw [if_pos q] at e57
        rw [e57]
        exact ⟨(hUQ.2 a han).2.1 ww, Or.inl ww⟩
      · have ww : ruW u a = 13 := wq 14 (by decide) (by decide) q
        rw [if_neg (by rw [q]; decide)] at e57
        rw [e57]
        exact ⟨(hUQ.2 a han).2.2.1 ww, Or.inr ww⟩
    have b57 : v57 = 0 ∨ v57 = 1 := by rw [e57]; split <;> omega
    refine (x_RR_takeValue (i32s (by omega) (by omega)) (i32s (by omega) (by omega)) (Or.inr rfl) h g han (fun H' e => Or.inl ⟨rfl, by omega, by omega, e⟩) (by unfold jm; omega)).mono (fun x M' q => ?_)
    obtain ⟨qe, qr⟩ := q
    obtain ⟨r1, r2, r3⟩ := v_rt g rrF.refl qr
    obtain ⟨ey, -, -, e4, -, -, -, H', g', -⟩ := qr
    subst ey
    exact ⟨r1, r2, r3, val_v v (Or.inr (Or.inr uc.2)) hkk same5.1 same5.2.1 same5.2.2 (by rw [fl_ok (by rcases uc.2 with q | q; exact Or.inr (Or.inl q); exact Or.inr (Or.inr (Or.inl q)))]; exact Fq_none rfl rfl) (kd_tru (eo_leaf_lo (Or.inr (Or.inr uc.2))) (Nat.lt_succ_self a) (Or.inr uc.2)).symm uc.1 qe e4 g'⟩
  · have han : a < n := by
      rcases y15 with q | q
      · exact nend q (by omega)
      · exact nend q (by omega)
    have ww : ruW u a = mI M5 A a - 1 := by
      rcases y15 with q | q
      · rw [q]; exact wq 15 (by decide) (by decide) q
      · rw [q]; exact wq 16 (by decide) (by decide) q
    have ww2 : ruW u a = 14 ∨ ruW u a = 15 := by
      rcases y15 with q | q
      · exact Or.inl (by rw [ww, q]; decide)
      · exact Or.inr (by rw [ww, q]; decide)
    obtain ⟨h70, f70, r70, n70⟩ := rb_fld h ⟨by omega, by omega⟩ e70
    obtain ⟨oO, oP, op, -⟩ := h.off
    replace oO : Hid0 _ := oO
    replace oP : Hid0 _ := oP
    replace op : Hid0 _ := op
    have a70 : mI M70 r 2 = ((a + 1 : Nat) : Int) := by rw [r70, if_pos rfl]; omega
    have A70 := (h.word f70).1
    have g70 := g.cg (M' := M70) (a' := a + 1) a70 (by omega) (by omega) (by rw [r70, if_neg (by decide)]) (by rw [r70, if_neg (by decide)]) (by rw [r70, if_neg (by decide)]) (by rw [r70, if_neg (by decide)]) (fun i i1 i5 => n70 (r + i) (by omega)) (by rw [n70 p (by first | exact op | exact off0 op | exact off9 op (by decide) | exact off4 op | exact fun q => e1 q.symm | exact fun q => e2 q.symm | omega)]) (n70 O (by first | exact oO | exact off0 oO | exact off9 oO (by decide) | exact off4 oO | exact e1 | exact e3 | omega)) (n70 P (by first | exact oP | exact off0 oP | exact off9 oP (by decide) | exact off4 oP | exact e2 | exact fun q => e3 q.symm | omega))
    have rf : rrF M5 r p O P s M70 := ⟨f70, fun i i2 _ _ _ _ _ _ => by rw [r70, if_neg i2], fun _ => by rw [r70, if_neg (by decide)], fun i i6 i9 => n70 (r + i) (by omega), fun i _ => by rw [n70 p (by first | exact op | exact off0 op | exact off9 op (by decide) | exact off4 op | exact fun q => e1 q.symm | exact fun q => e2 q.symm | omega)], fun i _ => ⟨by rw [n70 O (by first | exact oO | exact off0 oO | exact off9 oO (by decide) | exact off4 oO | exact e1 | exact e3 | omega)], by rw [n70 P (by first | exact oP | exact off0 oP | exact off9 oP (by decide) | exact off4 oP | exact e2 | exact fun q => e3 q.symm | omega)]⟩⟩
    have v70 : RW1 u M70 r O P s L a := v.same (fun i i2 => by rw [r70, if_neg i2]) (fun i i1 _ => n70 (r + i) (by omega)) (n70 O (by first | exact oO | exact off0 oO | exact off9 oO (by decide) | exact off4 oO | exact e1 | exact e3 | omega)) (n70 P (by first | exact oP | exact off0 oP | exact off9 oP (by decide) | exact off4 oP | exact e2 | exact fun q => e3 q.symm | omega))
    obtain ⟨wb1, wb2, -⟩ := hUQ.1 (a + 1) (by omega)
    have wnx : mI M70 A (a + 1) = 37 ↔ ruW u (a + 1) = 36 := by rw [A70, wb2]; exact csq_eq (y := 37) wb1.1 wb1.2 (by decide) (by decide)
    clear wb2 wb1
    obtain ⟨-, -, ⟨r0', -⟩, hW', -⟩ := id h70
    obtain ⟨⟨w1', ⟨p0', p3', p4', p5'⟩, -, ⟨k3', k4', k5'⟩, ⟨c3', c4', c5'⟩, -⟩, -⟩ := id hW'
    rw [r0', p3', c3', a70, Int.toNat_natCast]
    refine ⟨w1', k3', by omega, fun y => ?_, fun y => ?_⟩
    · have han1 : a + 1 < n := by
        have : a + 1 ≠ n := fun q => by rw [A70, q, hA] at y; omega
        omega
      refine (x_RR_takeLevel h70 g70 (by omega) ⟨x0, x1⟩ han1).mono (fun x M' q => ?_)
      obtain ⟨ql, qe⟩ := q
      obtain ⟨q1, q2, q3⟩ := l_rt (a := a) (by omega) g70 rf ql
      refine ⟨q1, q2, k_RR_takeOperand_277 q2 q1 ⟨q3, ?_⟩⟩
      obtain ⟨-, -, -, -, ⟨s5, s6, s7⟩, s8⟩ := ql
      rcases qe with ⟨z1, z2⟩ | ⟨z1, z2, ⟨f1, f2, f3, f4, f5⟩, t1, t2, t3, t4, t5⟩
      · rcases s8 with ⟨-, s8⟩ | ⟨s8, -⟩
        · subst s8
          exact ⟨a + 1, a70, Or.inl ⟨z1, v70.lst_no ww2 (fun q => z2 q.2)⟩⟩
        · exact absurd (z1.symm.trans s8) (by decide)
      · rcases s8 with ⟨s8, -⟩ | ⟨-, g'⟩
        · exact absurd (z1.symm.trans s8) (by decide)
        obtain ⟨⟨i1, -, i3, i4⟩, -⟩ := g'
        rw [ex6] at t2
        exact rtv_1 (a := a + 1) (Nat.le_succ a) (L9 := L) z1 i3 i1 i4 (v70.lst (k := k) y15 ww (wnx.mp y) z2 g70.1.2.1 f1 f2 f3 f4 f5 t1 t2 t3 t4 t5 s6 s7)
    · refine k_RR_takeOperand_277 h70.1 (i32s (by omega) (by omega)) ⟨⟨h70, rf, Or.inr (Or.inr rfl), H, L, k, 1, a + 1, g70, by omega, fun q => absurd q (by decide)⟩, a + 1, a70, Or.inl ⟨rfl, v70.lst_no ww2 (fun q => y (wnx.mpr q.1))⟩⟩
  · refine (x_RR_takeLevel h g (by omega) ⟨x0, x1⟩ (nend y26 (by omega))).mono (fun x M' q => ?_)
    obtain ⟨ql, qe⟩ := q
    rw [ex6] at qe
    obtain ⟨r1, r2, r3⟩ := l_rt (Nat.le_refl _) g rrF.refl ql
    exact ⟨r1, r2, r3, lvl_v v (Or.inr (Or.inl ⟨rfl, wq 26 (by decide) (by decide) y26⟩)) (fun q => absurd q (by decide)) g ql qe⟩
  · have han := nend y32 (by omega)
    have ww : ruW u a = 31 := wq 32 (by decide) (by decide) y32
    refine (x_RR_mayDeny h g.1.2.1 (by omega)).mono (fun x88 M87 q => ?_)
    obtain ⟨e87, hx, hx2⟩ := q
    subst e87
    have mm : Hid (x88 ≠ 0 ↔ myd M87 r) := hx2
    clear hx2
    refine ⟨i32s (by omega) (by omega), h.1, fun z0 => k_RR_takeOperand_239 h.1 (i32s (by omega) (by omega)) ⟨⟨h, rrF.refl, Or.inr (Or.inr rfl), H, L, k, 1, a, g, Nat.le_refl _, fun q => absurd q (by decide)⟩, a, g1, Or.inl ⟨rfl, v.no ⟨by omega, fun q => by omega, fun _ q => (show _ ↔ _ from mm).mpr q.1 z0⟩⟩⟩, fun z0 => ⟨k0, (x_RR_takeLevel h g (by omega) ⟨x0, x1⟩ han).mono (fun x M' q => ?_)⟩⟩
    obtain ⟨ql, qe⟩ := q
    rw [ex6] at qe
    obtain ⟨q1, q2, q3⟩ := l_rt (a := a) (Nat.le_refl _) g rrF.refl ql
    exact ⟨q1, q2, k_RR_takeOperand_239 q2 q1 ⟨q3, lvl_v v (Or.inr (Or.inr ⟨rfl, ww⟩)) (fun _ => (show _ ↔ _ from mm).mp z0) g ql qe⟩⟩
  · refine (x_RR_takeLevel h g (by omega) ⟨x0, x1⟩ (nend y37 (by omega))).mono (fun x M' q => ?_)
    obtain ⟨ql, qe⟩ := q
    rw [ex6] at qe
    obtain ⟨r1, r2, r3⟩ := l_rt (Nat.le_refl _) g rrF.refl ql
    exact ⟨r1, r2, r3, lvl_v v (Or.inl ⟨rfl, wq 37 (by decide) (by decide) y37⟩) (fun q => absurd q (by decide)) g ql qe⟩
  · have m2 := wn 2 (by decide) (by decide) y2
    have m3 := wn 3 (by decide) (by decide) y3
    have m13 := wn 13 (by decide) (by decide) (fun q => y13 (Or.inl q))
    have m14 := wn 14 (by decide) (by decide) (fun q => y13 (Or.inr q))
    have m15 := wn 15 (by decide) (by decide) (fun q => y15 (Or.inl q))
    have m16 := wn 16 (by decide) (by decide) (fun q => y15 (Or.inr q))
    have m26 := wn 26 (by decide) (by decide) y26
    have m32 := wn 32 (by decide) (by decide) y32
    have m37 := wn 37 (by decide) (by decide) y37
    refine ⟨⟨h, rrF.refl, Or.inr (Or.inr rfl), H, L, k, 1, a, g, Nat.le_refl _, fun q => absurd q (by decide)⟩, a, g1, Or.inl ⟨rfl, v.no ⟨?_, ?_, ?_⟩⟩⟩
    · rintro (q | q | q | q | q | q)
      · exact m2 q
      · exact m3 q
      · exact m13 q
      · exact m14 q
      · exact m15 q
      · exact m16 q
    · rintro (q | q)
      · exact absurd q m26
      · exact absurd q m37
    · intro q
      exact absurd q m32
end RXD
end
section
/-! The class's reader: a whole rule, exactly. -/
/-- the fault of a rule that is of the wrong kind: l1 = 0 any kind, 1 a number, 2 a truth -/
noncomputable def kfv (u : Ru) (l1 : Int) (a' : Nat) : Int × Int := kft (l1 = 0 ∨ kdq (ruW u) (uE u) 0 (ruI u) a' = (if l1 = 2 then 1 else 0)) (uP u (ruI u))
/-- a rule has been read up to word a' -/
def rlD (u : Ru) (r p O P s a' : Nat) (ft : Int × Int) (M' : mM) : Prop := ∃ L' : Nat, mI M' p 2 = L' ∧ Eo (ruW u) 6 (ruI u) a' ∧ mI M' (r + 5) 0 = kdq (ruW u) (uE u) 0 (ruI u) a' ∧ FT M' r ft ∧ Cd (ruW u) (uC u) (uP u) (mI M' O) (mI M' P) 0 0 0 (ruI u) a' s L' ∧ mI M' r 5 = slv (uZ u) ∧ Rc (ruW u) (uS u) (uK u) (uZ u) a'
def rleV (u : Ru) (r p O P s : Nat) (l1 x : Int) (M' : mM) : Prop := ∃ a' : Nat, mI M' r 2 = a' ∧ ((x = 0 ∧ Rf (ruW u) (uS u) (uK u) a') ∨ (x = 1 ∧ rlD u r p O P s a' (fst9 (fst9 (uF u) (fl (ruW u) (uE u) (uP u) 0 (ruI u) a')) (kfv u l1 a')) M'))
section RXE
variable {G : mG} {d z r w T A B D N C n p O P K k a a' s L L1 V F d0 c b : Nat} {M0 M M' M1 M2 : mM} {H H1 : Nat → Nat} {ns : Nat → Int} {wt : Int} {u : Ru}
abbrev rleX (u : Ru) (M0 : mM) (z r w T A B D N C n p O P K s V F : Nat) (ns : Nat → Int) (d0 a : Nat) (l1 x : Int) (M' : mM) : Prop := rleQ M0 z r w T A B D N C n p O P K s V F ns d0 a x M' ∧ rleV u r p O P s l1 x M'
theorem x_RR_isTruth (h : RB M z r w T A B D N C n p O P K) (ht : ∀ j, mI M (r + 5) j = 0 ∨ mI M (r + 5) j = 1) : Ci G y_RR_isTruth d [vr r] M (fun x M' => M' = M ∧ (x = 0 ∨ x = 1) ∧ x = mI M (r + 5) 0) := by
  obtain ⟨-, ⟨k0, ⟨-, -, -, -, q13, -⟩, ⟨-, -, -, -, kk5, -⟩, ⟨-, -, -, -, nn5, -⟩⟩, -⟩ := id h
  refine k_RR_isTruth h.1 ?_
  rw [q13, nn5]
  exact ⟨k0, kk5, ⟨by omega, by omega⟩, ht 0, rfl, ht 0, rfl⟩
theorem FT.none {ft : Int × Int} (h : FT M r ft) : FT M r (fst9 ft (0, 0)) := Fq_none rfl rfl ft h
/-- the rule's end -/
theorem x_rr_end {l1 l2 l3 x : Int} {l5 : Int} (i1 : i32 l1) (i2 : i32 l2) (b3 : 0 ≤ l3 ∧ l3 ≤ 16384) (e3 : l3 = uP u (ruI u)) (i5 : i32 l5) (hx : x = 1 ∨ x = 2) (h : RB M z r w T A B D N C n p O P K) (f : rrF M0 r p O P s M) (g : RG M r p O P n s V F ns d0 H L k a' wt) (haa : a ≤ a') (h1 : x = 1 → k = 0 ∧ wt = 0) (v : rtV u r p O P s b x M) : h_RR_readRule_37 G (d + 1) r l1 l2 l3 x l5 M (rleX u M0 z r w T A B D N C n p O P K s V F ns d0 a l1) := by
  have gt := g.2.2.2.2.2.2.2.2.2.2
  have k0 := h.2.1.1
  obtain ⟨a9, ea9, cs⟩ := v
  have fin : ∀ {M' : mM}, RB M' z r w T A B D N C n p O P K → rrF M0 r p O P s M' → RG M' r p O P n s V F ns d0 H L k a' wt → mI M' r 2 = a9 → (x = 1 → rlD u r p O P s a9 (fst9 (fst9 (uF u) (fl (ruW u) (uE u) (uP u) 0 (ruI u) a9)) (kfv u l1 a9)) M') → h_RR_readRule_154 G (d + 1) x M' (rleX u M0 z r w T A B D N C n p O P K s V F ns d0 a l1) := fun {M'} hh ff gg e9 hD => by
    refine k_RR_readRule_154 hh.1 (i32s (by omega) (by omega)) (fun v e => ⟨⟨hh, ff, gg.2.2.2.2.2.2.2.2.2.2, ?_⟩, a9, e9, ?_⟩)
    · by_cases q : x = 1
      · obtain ⟨e1, e2⟩ := h1 q
        rw [if_pos q] at e
        rw [e1, e2] at gg
        exact Or.inr ⟨e, H, L, a', gg, haa⟩
      · rw [if_neg q] at e
        exact Or.inl ⟨e, gg.ref⟩
    · by_cases q : x = 1
      · rw [if_pos q] at e
        exact Or.inr ⟨e, hD q⟩
      · rw [if_neg q] at e
        rcases cs with cs | cs | cs
        · exact Or.inl ⟨e, cs.2⟩
        · exact absurd cs.1 (by omega)
        · exact absurd cs.1 q
  -- the rule that is over
  have D0 : x = 1 → rlD u r p O P s a9 (fst9 (uF u) (fl (ruW u) (uE u) (uP u) 0 (ruI u) a9)) M := fun q => by
    rcases cs with cs | cs | cs
    · exact absurd (q.symm.trans cs.1) (by decide)
    · exact absurd (q.symm.trans cs.1) (by decide)
    · obtain ⟨-, c, c', L', l1', l2', l3', l4', l5'⟩ := cs
      obtain ⟨o1, o2, o3, o4, o5, o6⟩ := l4'.over l3' l5'
      exact ⟨L', l1', o1.le l2' (by decide), o2, o3, o4, o5, o6⟩
  have D1 : ∀ {ft : Int × Int}, rlD u r p O P s a9 ft M → rlD u r p O P s a9 (fst9 ft (0, 0)) M := fun {ft} q => by
    obtain ⟨L', q1, q2, q3, q4, q5⟩ := q
    exact ⟨L', q1, q2, q3, q4.none, q5⟩
  refine k_RR_readRule_37 h.1 i1 i2 (i32s (by omega) (by omega)) (i32s (by omega) (by omega)) i5 ⟨fun _ => ⟨fun y => fin h f g ea9 (fun q => ?_), fun y => ⟨k0, (x_RR_isTruth h gt).mono (fun x26 M25 q => ?_)⟩⟩, fun y => absurd (Or.inr (by omega)) y⟩
  · have l0 : l1 = 0 := by
      rcases y with y | y
      · exact absurd q y
      · exact y
    have ek : kfv u l1 a9 = (0, 0) := if_pos (Or.inl l0)
    rw [ek]
    exact D1 (D0 q)
  obtain ⟨e25, hx26, ex26⟩ := q
  subst e25
  have x1 : x = 1 := Classical.byContradiction (fun q => y (Or.inl q))
  have l10 : l1 ≠ 0 := fun q => y (Or.inr q)
  have D := D0 x1
  have ekd : x26 = kdq (ruW u) (uE u) 0 (ruI u) a9 := by obtain ⟨L', q1, q2, q3, -⟩ := D; rw [ex26, q3]
  have i26 : i32 x26 := by rcases hx26 with q | q <;> rw [q] <;> exact ⟨by decide, by decide⟩
  refine ⟨i26, h.1, fun v29 e29 => ⟨fun q => fin h f g ea9 (fun _ => ?_), fun q => ⟨k0, (x_RR_note (i32s (by omega) (by omega)) (i32s (by omega) (by omega)) h).mono (fun M22 q2 => ?_)⟩⟩⟩
  · have ek : kfv u l1 a9 = (0, 0) := if_pos (Or.inr (by rw [← ekd, q, e29]))
    rw [ek]
    exact D1 D
  obtain ⟨h22, f22, r22, t22, t22', F9⟩ := q2
  have n22 : ∀ b, b ≠ r → mI M22 b = mI M25 b := fun b hb => f22.2.2.2.2.2.2 b hb
  obtain ⟨oO, oP, op, -⟩ := h.off
  replace oO : Hid0 _ := oO
  replace oP : Hid0 _ := oP
  replace op : Hid0 _ := op
  have F22 : FI (rdS r p O P) M25 M22 := f22.mono (fun b q => Or.inl (by have q' : b = r := q; omega))
  have g22 := g.cg (M' := M22) (a' := a') (by rw [r22 2 (by decide) (by decide)]; exact g.1.1) (Nat.le_refl _) g.2.2.1.1 (r22 12 (by decide) (by decide)) (r22 7 (by decide) (by decide)) (r22 14 (by decide) (by decide)) (r22 5 (by decide) (by decide)) (fun i i1 i5 => n22 (r + i) (by omega)) (by rw [n22 p (by first | exact op | exact off0 op | exact off9 op (by decide) | exact off4 op | exact fun q => e1 q.symm | exact fun q => e2 q.symm | omega)]) (n22 O (by first | exact oO | exact off0 oO | exact off9 oO (by decide) | exact off4 oO | exact e1 | exact e3 | omega)) (n22 P (by first | exact oP | exact off0 oP | exact off9 oP (by decide) | exact off4 oP | exact e2 | exact fun q => e3 q.symm | omega))
  have rf : rrF M25 r p O P s M22 := ⟨F22, fun i _ i3 i4 _ _ _ _ => r22 i i3 i4, t22', fun i i6 i9 => n22 (r + i) (by omega), fun i _ => by rw [n22 p (by first | exact op | exact off0 op | exact off9 op (by decide) | exact off4 op | exact fun q => e1 q.symm | exact fun q => e2 q.symm | omega)], fun i _ => ⟨by rw [n22 O (by first | exact oO | exact off0 oO | exact off9 oO (by decide) | exact off4 oO | exact e1 | exact e3 | omega)], by rw [n22 P (by first | exact oP | exact off0 oP | exact off9 oP (by decide) | exact off4 oP | exact e2 | exact fun q => e3 q.symm | omega)]⟩⟩
  refine ⟨h22.1, fin h22 (f.trans rf) g22 (by rw [r22 2 (by decide) (by decide)]; exact ea9) (fun _ => ?_)⟩
  have ek : kfv u l1 a9 = (3, uP u (ruI u)) := if_neg (fun q3 => by
    rcases q3 with q3 | q3
    · exact l10 q3
    · rw [← ekd, ← e29] at q3
      exact q q3)
  rw [ek, ← e3]
  obtain ⟨L', d1, d2, d3, d4, d5, d6, d7⟩ := D
  exact ⟨L', by rw [n22 p (by first | exact op | exact off0 op | exact off9 op (by decide) | exact off4 op | exact fun q => e1 q.symm | exact fun q => e2 q.symm | omega)]; exact d1, d2, by rw [n22 (r + 5) (by omega)]; exact d3, F9 (by decide) _ d4, by rw [n22 O (by first | exact oO | exact off0 oO | exact off9 oO (by decide) | exact off4 oO | exact e1 | exact e3 | omega), n22 P (by first | exact oP | exact off0 oP | exact off9 oP (by decide) | exact off4 oP | exact e2 | exact fun q => e3 q.symm | omega)]; exact d5, by rw [r22 5 (by decide) (by decide)]; exact d6, d7⟩
/-- negations are grouped -/
theorem x_rr68 {l1 l2 l3 x l5 : Int} {Q : Int → mM → Prop} (i1 : i32 l1) (i2 : i32 l2) (i3 : i32 l3) (i4 : i32 x) (i5 : i32 l5) (nx : ∀ (M : mM) (H : Nat → Nat) (L k : Nat) (wt : Int), RB M z r w T A B D N C n p O P K → rrF M0 r p O P s M → RG M r p O P n s V F ns d0 H L k a' wt → (x = 1 → k = 0 ∧ wt = 0) → rtV u r p O P s b x M → Hid (wt = 0 → 0 < k → mI M (r + 1) (k - 1) ≠ 40) → h_RR_readRule_37 G (d + 1) r l1 l2 l3 x (l5 + (-1)) M Q) : ∀ (k : Nat) (M : mM) (H : Nat → Nat) (L : Nat) (wt : Int), RB M z r w T A B D N C n p O P K → rrF M0 r p O P s M → RG M r p O P n s V F ns d0 H L k a' wt → (x = 1 → k = 0 ∧ wt = 0) → rtV u r p O P s b x M → h_RR_readRule_68 G (d + 1) r l1 l2 l3 x l5 M Q := by
  intro k
  induction k with
  | zero =>
    intro M H L wt h f g h1 v
    have g2 := g.1.2.1
    exact k_RR_readRule_68 h.1 i1 i2 i3 i4 i5 ⟨h.2.1.1, fun _ y => absurd y (by omega), fun _ => nx M H L 0 wt h f g h1 v (fun _ q => absurd q (by omega)), fun y => absurd (Or.inr (Or.inl (by omega))) y⟩
  | succ k ih =>
    intro M H L wt h f g h1 v
    have g2 := g.1.2.1
    have g7 := g.1.2.2.1
    have rm := g.room
    obtain ⟨-, ⟨k0, ⟨q8, -⟩, ⟨kk1, -⟩, ⟨nn1, -⟩⟩, -⟩ := id h
    refine k_RR_readRule_68 h.1 i1 i2 i3 i4 i5 ?_
    rw [g2, q8, nn1, show (((k + 1 : Nat) : Int) - 1).toNat = k by first | rfl | omega, g7]
    refine ⟨k0, fun _ _ => ⟨kk1, by omega⟩, fun y => nx M H L (k + 1) wt h f g h1 v (fun w0 _ => ?_), fun y => ⟨⟨by omega, by omega⟩, fun M66 e66 => ?_⟩⟩
    · rw [show k + 1 - 1 = k by first | rfl | omega]
      rcases y with y | y | y
      · exact absurd w0 y
      · exact absurd y (by omega)
      · exact y
    have w0 : wt = 0 := Classical.byContradiction (fun q => y (Or.inl q))
    have o40 : mI M (r + 1) k = 40 := Classical.byContradiction (fun q => y (Or.inr (Or.inr q)))
    subst w0
    refine (x_RR_group g h (by rw [o40]; exact Or.inr (Or.inl rfl)) e66).mono (fun M68 q => ?_)
    obtain ⟨qg, qe⟩ := q
    have fq := f.trans (g_rrF qg)
    obtain ⟨q1, -, -, -, -, -, -, -, H', L', g', -⟩ := qg
    refine ⟨q1.1, ih M68 H' L' 0 q1 fq g' (fun q => by have := (h1 q).1; omega) ?_⟩
    obtain ⟨a9, ea9, cs⟩ := v
    have e9 : a9 = a' := by rw [g.1.1] at ea9; exact (Int.ofNat_inj.mp ea9).symm
    subst e9
    refine ⟨a9, g'.1.1, ?_⟩
    rcases cs with cs | ⟨c1, c2, c3⟩ | cs
    · exact Or.inl cs
    · refine Or.inr (Or.inl ⟨c1, c2, fun L9 hL9 => ⟨fun _ => ?_, fun q => absurd (g'.1.2.2.1.symm.trans q) (by decide)⟩⟩)
      have v0 := (c3 L g.1.2.2.2).1 g7
      have hm : lwx (ruW u a9) ≤ 0 ∨ rsq 40 < lwx (ruW u a9) := by
        have : rsq 40 = 0 := by decide
        omega
      exact v0.grp (o := 40) g o40 (Or.inr (Or.inl rfl)) (Nat.zero_le _) hm (fun q => absurd q (by decide)) qe hL9
    · exact absurd (h1 cs.1).1 (by omega)
theorem x_rr37 {l1 l2 l3 : Int} (i1 : i32 l1) (i2 : i32 l2) (b3 : 0 ≤ l3 ∧ l3 ≤ 16384) (e3 : l3 = uP u (ruI u)) (hask : Hid ((l2 = 0 → uQ u = 5) ∧ (l2 ≠ 0 → uQ u = 6))) (hz : Hid (∀ j, lwx (ruW u j) = 3 → Rf (ruW u) (uZ u) j j)) : ∀ (t : Nat) (M : mM) (H : Nat → Nat) (L k : Nat) (wt : Int) (a' : Nat), t ≤ 20000 → a ≤ a' → n + 1 ≤ t + a' → RB M z r w T A B D N C n p O P K → rrF M0 r p O P s M → RG M r p O P n s V F ns d0 H L k a' wt → NK M r A n V F ns c → UQ u M r T A B D n c → RWx u M r p O P s a' → Hid (wt = 0 → 0 < k → mI M (r + 1) (k - 1) ≠ 40) → h_RR_readRule_37 G (d + 3) r l1 l2 l3 0 t M (rleX u M0 z r w T A B D N C n p O P K s V F ns d0 a l1) := by
  intro t
  induction t with
  | zero =>
    intro M H L k wt a' ht haa hta h f g nk
    have := g.2.2.1.1
    omega
  | succ t ih =>
    intro M H L k wt a' ht haa hta h f g nk uq vx hn
    have g7 := g.1.2.2.1
    have gw := g.2.1
    have it : i32 ((t + 1 : Nat) : Int) := i32s (by omega) (by omega)
    have go : ∀ {x : Int} {M1 : mM}, rtX u M z r w T A B D N C n p O P K s V F ns d0 a' x M1 → i32 x ∧ mOk M1 ∧ h_RR_readRule_68 G (d + 3) r l1 l2 l3 x ((t + 1 : Nat) : Int) M1 (rleX u M0 z r w T A B D N C n p O P K s V F ns d0 a l1) := fun {x M1} q => by
      obtain ⟨⟨q1, q2, q3, H', L', k', wt', a2, g', q4, q5⟩, qv⟩ := q
      have ix : i32 x := i32s (by omega) (by omega)
      refine ⟨ix, q1.1, x_rr68 (M0 := M) (b := a') i1 i2 (i32s (by omega) (by omega)) ix it (fun M2 H2 L2 k2 wt2 h2 f2 g2 e2 v2 n2 => ?_) k' M1 H' L' wt' q1 q2 g' q5 qv⟩
      rw [show ((t + 1 : Nat) : Int) + (-1) = (t : Int) by first | rfl | omega]
      by_cases y : x = 0
      · subst y
        obtain ⟨a9, ea9, cs⟩ := v2
        have e9 : a9 = a2 := by rw [g2.1.1] at ea9; exact (Int.ofNat_inj.mp ea9).symm
        subst e9
        rcases cs with cs | ⟨-, c2, c3⟩ | cs
        · exact absurd cs.1 (by decide)
        · exact ih M2 H2 L2 k2 wt2 a9 (by omega) (by omega) (by omega) h2 (f.trans f2) g2 (nk.rr h f2) (uq.rr h f2) c3 n2
        · exact absurd cs.1 (by decide)
      · exact x_rr_end i1 i2 b3 e3 (i32s (by omega) (by omega)) (by omega) h2 (f.trans f2) g2 (by omega) e2 v2
    refine k_RR_readRule_37 h.1 i1 i2 (i32s (by omega) (by omega)) (i32s (by omega) (by omega)) it ⟨fun y => absurd y (by omega), fun _ => ⟨h.2.1.1, fun y => ?_, fun y => ?_⟩⟩
    · have w0 : wt = 0 := by omega
      subst w0
      exact (x_RR_takeOperator i2 h g uq.1 hask hz ((show _ → _ from hn) rfl) ((vx L g.1.2.2.2).1 g7)).mono (fun x M1 q => go q)
    · have w1 : wt = 1 := by omega
      subst w1
      exact (x_RR_takeOperand h g nk uq ((vx L g.1.2.2.2).2 g7)).mono (fun x M1 q => go q)
/-- a whole rule -/
theorem x_RR_readRule {l1 l2 : Int} (i1 : i32 l1) (i2 : i32 l2) (h : RB M z r w T A B D N C n p O P K) (ha : mI M r 2 = a) (han : a ≤ n) (hs : mI M p 2 = s) (hsa : s ≤ a) (hd : mI M r 5 = d0) (hd4 : d0 ≤ 40) (ht : ∀ j, mI M (r + 5) j = 0 ∨ mI M (r + 5) j = 1) (nk : NK M r A n V F ns c) (uq : UQ u M r T A B D n c) (hI : ruI u = a) (hF : FT M r (uF u)) (hD : mI M r 5 = slv (uZ u)) (hask : Hid ((l2 = 0 → uQ u = 5) ∧ (l2 ≠ 0 → uQ u = 6))) (hz : Hid (∀ j, lwx (ruW u j) = 3 → Rf (ruW u) (uZ u) j j)) (hR : Rc (ruW u) (uS u) (uK u) (gyW (uZ u) (uQ u) []) a) : Ci G y_RR_readRule (d + 4) [vr r, vi l1, vi l2] M (rleX u M z r w T A B D N C n p O P K s V F ns d0 a l1) := by
  have hnN := h.2.2.2.1.2.2.1
  have hN := h.2.2.2.1.1.2.2.2.2.2.2.1
  refine k_RR_readRule h.1 i1 i2 ⟨h.2.1.1, (s_RR_here h ha han).mono (fun x3 M2 q => ?_)⟩
  obtain ⟨e2, ex3, x0, x1⟩ := q
  subst e2
  refine ⟨i32s (by omega) (by omega), h.1, h.2.1.1, fun M6 e6 M8 e8 M10 e10 => ?_⟩
  obtain ⟨h6, f6, r6, n6⟩ := rb_fld h (v := 0) (i32s (by omega) (by omega)) e6
  obtain ⟨h8, f8, r8, n8⟩ := rb_fld h6 (v := 0) (i32s (by omega) (by omega)) e8
  obtain ⟨h10, f10, r10, n10⟩ := rb_fld h8 (v := 1) (i32s (by omega) (by omega)) e10
  have R : ∀ i, mI M10 r i = if i = 7 then 1 else if i = 14 then 0 else if i = 12 then 0 else mI M2 r i := fun i => by rw [r10, r8, r6]
  have Nn : ∀ b, b ≠ r → mI M10 b = mI M2 b := fun b hb => by rw [n10 b hb, n8 b hb, n6 b hb]
  obtain ⟨oO, oP, op, -⟩ := h.off
  replace oO : Hid0 _ := oO
  replace oP : Hid0 _ := oP
  replace op : Hid0 _ := op
  have rf : rrF M2 r p O P s M10 := ⟨(f6.trans f8).trans f10, fun i _ _ _ _ i7 i12 i14 => by rw [R, if_neg i7, if_neg i14, if_neg i12], fun _ => by rw [R, if_neg (by decide), if_neg (by decide), if_neg (by decide)], fun i i6 i9 => Nn (r + i) (by omega), fun i _ => by rw [Nn p (by first | exact op | exact off0 op | exact off9 op (by decide) | exact off4 op | exact fun q => e1 q.symm | exact fun q => e2 q.symm | omega)], fun i _ => ⟨by rw [Nn O (by first | exact oO | exact off0 oO | exact off9 oO (by decide) | exact off4 oO | exact e1 | exact e3 | omega)], by rw [Nn P (by first | exact oP | exact off0 oP | exact off9 oP (by decide) | exact off4 oP | exact e2 | exact fun q => e3 q.symm | omega)]⟩⟩
  have g : RG M10 r p O P n s V F ns d0 (fun _ => 0) s 0 a 1 := by
    refine ⟨⟨by rw [R, if_neg (by decide), if_neg (by decide), if_neg (by decide)]; exact ha, by rw [R, if_neg (by decide), if_neg (by decide), if_pos rfl]; rfl, by rw [R, if_pos rfl], by rw [Nn p (by first | exact op | exact off0 op | exact off9 op (by decide) | exact off4 op | exact fun q => e1 q.symm | exact fun q => e2 q.symm | omega)]; exact hs⟩, Or.inr rfl, ⟨han, Nat.le_refl _⟩, by rw [R, if_neg (by decide), if_pos rfl]; rfl, ⟨by rw [R, if_neg (by decide), if_neg (by decide), if_neg (by decide)]; exact hd, hd4⟩, fun i hi => absurd hi (by omega), fun i hi => absurd hi (by omega), ⟨rfl, by show 0 + s ≤ s; omega⟩, fun pc h0 h1 => absurd h0 (by omega), hsa, fun j => by rw [Nn (r + 5) (by omega)]; exact ht j⟩
  have q56 : 5 ≤ uQ u ∧ uQ u ≤ 6 := by
    obtain ⟨q1, q2⟩ := (show _ ∧ _ from hask)
    by_cases y : l2 = 0
    · have := q1 y; omega
    · have := q2 y; omega
  have v1 : RW1 u M10 r O P s s a := ⟨[], [], [], [], uF u, ⟨⟨trivial, trivial, trivial, trivial, trivial⟩, ⟨by rw [R, if_neg (by decide), if_neg (by decide), if_pos rfl]; rfl, by rw [R, if_neg (by decide), if_pos rfl]; rfl⟩, ⟨rfl, rfl⟩, hF.same (by rw [R, if_neg (by decide), if_neg (by decide), if_neg (by decide)]) (by rw [R, if_neg (by decide), if_neg (by decide), if_neg (by decide)]), ⟨q56, trivial⟩, by rw [R, if_neg (by decide), if_neg (by decide), if_neg (by decide), hD]; show _ = slv (uZ u) + ((0 : Nat) : Int); omega⟩, ⟨rfl, rfl, rfl, rfl, rfl⟩, hI, hR⟩
  have vx : RWx u M10 r p O P s a := fun L' hL' => ⟨fun q => absurd (g.1.2.2.1.symm.trans q) (by decide), fun _ => by
    have : L' = s := by rw [g.1.2.2.2] at hL'; exact (Int.ofNat_inj.mp hL').symm
    rw [this]; exact v1⟩
  have e3 : x3 = uP u (ruI u) := by rw [ex3, hI]; exact (uq.1 a han).2.2
  obtain ⟨-, -, ⟨r0, -⟩, hW, -⟩ := id h10
  have w2 := hW.2.1
  have wk := hW.1.1
  rw [r0, w2, g.1.1, show ((n + 1 : Int)) - (a : Int) = ((n + 1 - a : Nat) : Int) by first | rfl | omega]
  exact ⟨wk, x_rr37 i1 i2 ⟨x0, x1⟩ e3 hask hz (n + 1 - a) M10 (fun _ => 0) s 0 1 a (by omega) (Nat.le_refl _) (by omega) h10 rf g (nk.rr h rf) (uq.rr h rf) vx (fun q => absurd q (by decide))⟩
end RXE
end
section
/-! The class: rules where an int may run over. -/
theorem k_Ma_computew {G : mG} {d : Nat} {a0 : Nat} {l1 : Int} {l2 : Int} {M : mM} {Q : Int → mM → Prop} (hO : mOk M) (hi_l1 : i32 l1) (hi_l2 : i32 l2)
    (h : ((l1 = 40) → (mK M a0 = 5 ∧ mK M (mR M a0 6) = 30 ∧ ((0 : Int) ≤ (mI M a0 8) - 1 ∧ (mI M a0 8) - 1 < (mN M (mR M a0 6) : Int)) ∧ ((0 : Int) ≤ (mI M a0 8) - 1 ∧ (mI M a0 8) - 1 < (mN M (mR M a0 6) : Int)) ∧ ∀ M9, M9 = mUI M (mR M a0 6) (Int.toNat ((mI M a0 8) - 1)) (w32 (-(mI M (mR M a0 6) (Int.toNat ((mI M a0 8) - 1))))) → Q 1 M9)) ∧ (¬ (l1 = 40) → (((l1 = 41) → (mK M a0 = 5 ∧ mK M (mR M a0 6) = 30 ∧ ((0 : Int) ≤ (mI M a0 8) - 1 ∧ (mI M a0 8) - 1 < (mN M (mR M a0 6) : Int)) ∧ ((0 : Int) ≤ (mI M a0 8) - 1 ∧ (mI M a0 8) - 1 < (mN M (mR M a0 6) : Int)) ∧ ∀ M18, M18 = mUI M (mR M a0 6) (Int.toNat ((mI M a0 8) - 1)) (w32 (1 - (mI M (mR M a0 6) (Int.toNat ((mI M a0 8) - 1))))) → Q 1 M18)) ∧ (¬ (l1 = 41) → (((l1 = 43) → (mK M a0 = 5 ∧ Ci G y_Ma_store d [vr a0, vi (Int.tdiv l2 16), vi (Int.tmod l2 16)] M (fun x24 M23 => i32 x24 ∧ mOk M23 ∧ ((x24 = 0 ∨ x24 = 1) ∧ Q x24 M23)))) ∧ (¬ (l1 = 43) → (mK M a0 = 5 ∧ i32 ((mI M a0 8) - 1) ∧ ∀ M29, M29 = mUI M a0 8 ((mI M a0 8) - 1) → mK M29 (mR M29 a0 6) = 30 ∧ ((0 : Int) ≤ (mI M29 a0 8) - 1 ∧ (mI M29 a0 8) - 1 < (mN M29 (mR M29 a0 6) : Int)) ∧ mK M29 (mR M29 a0 7) = 30 ∧ ((0 : Int) ≤ (mI M29 a0 8) - 1 ∧ (mI M29 a0 8) - 1 < (mN M29 (mR M29 a0 7) : Int)) ∧ ((0 : Int) ≤ mI M29 a0 8 ∧ mI M29 a0 8 < (mN M29 (mR M29 a0 6) : Int)) ∧ ((0 : Int) ≤ mI M29 a0 8 ∧ mI M29 a0 8 < (mN M29 (mR M29 a0 7) : Int)) ∧ ((l1 = 25) → (Ci G y_Ma_settle d [vr a0, vl (((mI M29 (mR M29 a0 6) (Int.toNat ((mI M29 a0 8) - 1))) * (mI M29 (mR M29 a0 7) (Int.toNat (mI M29 a0 8)))) + ((mI M29 (mR M29 a0 6) (Int.toNat (mI M29 a0 8))) * (mI M29 (mR M29 a0 7) (Int.toNat ((mI M29 a0 8) - 1))))), vl ((mI M29 (mR M29 a0 7) (Int.toNat ((mI M29 a0 8) - 1))) * (mI M29 (mR M29 a0 7) (Int.toNat (mI M29 a0 8)))), vi l2] M29 (fun x39 M38 => i32 x39 ∧ mOk M38 ∧ ((x39 = 0 ∨ x39 = 1) ∧ Q x39 M38)))) ∧ (¬ (l1 = 25) → (((l1 = 26) → (Ci G y_Ma_settle d [vr a0, vl (((mI M29 (mR M29 a0 6) (Int.toNat ((mI M29 a0 8) - 1))) * (mI M29 (mR M29 a0 7) (Int.toNat (mI M29 a0 8)))) - ((mI M29 (mR M29 a0 6) (Int.toNat (mI M29 a0 8))) * (mI M29 (mR M29 a0 7) (Int.toNat ((mI M29 a0 8) - 1))))), vl ((mI M29 (mR M29 a0 7) (Int.toNat ((mI M29 a0 8) - 1))) * (mI M29 (mR M29 a0 7) (Int.toNat (mI M29 a0 8)))), vi l2] M29 (fun x44 M43 => i32 x44 ∧ mOk M43 ∧ ((x44 = 0 ∨ x44 = 1) ∧ Q x44 M43)))) ∧ (¬ (l1 = 26) → (((l1 = 27) → (Ci G y_Ma_settle d [vr a0, vl ((mI M29 (mR M29 a0 6) (Int.toNat ((mI M29 a0 8) - 1))) * (mI M29 (mR M29 a0 6) (Int.toNat (mI M29 a0 8)))), vl ((mI M29 (mR M29 a0 7) (Int.toNat ((mI M29 a0 8) - 1))) * (mI M29 (mR M29 a0 7) (Int.toNat (mI M29 a0 8)))), vi l2] M29 (fun x49 M48 => i32 x49 ∧ mOk M48 ∧ ((x49 = 0 ∨ x49 = 1) ∧ Q x49 M48)))) ∧ (¬ (l1 = 27) → (((l1 = 28) → (((cmpL (mI M29 (mR M29 a0 6) (Int.toNat (mI M29 a0 8))) 0 = 0) → (Ci G y_Ma_stop d [vr a0, vi 7, vi l2] M29 (fun x57 M56 => i32 x57 ∧ mOk M56 ∧ ((x57 = 0 ∨ x57 = 1) ∧ Q x57 M56)))) ∧ (¬ (cmpL (mI M29 (mR M29 a0 6) (Int.toNat (mI M29 a0 8))) 0 = 0) → (((cmpL (mI M29 (mR M29 a0 6) (Int.toNat (mI M29 a0 8))) 0 ≤ 0) → (Ci G y_Ma_settle d [vr a0, vl ((-(mI M29 (mR M29 a0 6) (Int.toNat ((mI M29 a0 8) - 1)))) * (mI M29 (mR M29 a0 7) (Int.toNat (mI M29 a0 8)))), vl ((-(mI M29 (mR M29 a0 7) (Int.toNat ((mI M29 a0 8) - 1)))) * (mI M29 (mR M29 a0 6) (Int.toNat (mI M29 a0 8)))), vi l2] M29 (fun x63 M62 => i32 x63 ∧ mOk M62 ∧ (h_Ma_compute_304 G d x63 M62 Q)))) ∧ (¬ (cmpL (mI M29 (mR M29 a0 6) (Int.toNat (mI M29 a0 8))) 0 ≤ 0) → (Ci G y_Ma_settle d [vr a0, vl ((mI M29 (mR M29 a0 6) (Int.toNat ((mI M29 a0 8) - 1))) * (mI M29 (mR M29 a0 7) (Int.toNat (mI M29 a0 8)))), vl ((mI M29 (mR M29 a0 7) (Int.toNat ((mI M29 a0 8) - 1))) * (mI M29 (mR M29 a0 6) (Int.toNat (mI M29 a0 8)))), vi l2] M29 (fun x66 M65 => i32 x66 ∧ mOk M65 ∧ (h_Ma_compute_304 G d x66 M65 Q)))))))) ∧ (¬ (l1 = 28) → (((l1 = 29) → ((((cmpL (mI M29 (mR M29 a0 7) (Int.toNat ((mI M29 a0 8) - 1))) 1 = 0) ∧ (cmpL (mI M29 (mR M29 a0 7) (Int.toNat (mI M29 a0 8))) 1 = 0)) → (((0 < cmpL (mI M29 (mR M29 a0 6) (Int.toNat (mI M29 a0 8))) 0) → (Cj G y_JM_floorMod d [vl (mI M29 (mR M29 a0 6) (Int.toNat ((mI M29 a0 8) - 1))), vl (mI M29 (mR M29 a0 6) (Int.toNat (mI M29 a0 8)))] M29 (fun x77 M76 => i64 x77 ∧ mOk M76 ∧ (mK M76 a0 = 5 ∧ Ci G y_Ma_settle d [vr a0, vl x77, vl 1, vi l2] M76 (fun x81 M80 => i32 x81 ∧ mOk M80 ∧ (h_Ma_compute_356 G d x81 M80 Q)))))) ∧ (¬ (0 < cmpL (mI M29 (mR M29 a0 6) (Int.toNat (mI M29 a0 8))) 0) → (Ci G y_Ma_stop d [vr a0, vi 7, vi l2] M29 (fun x84 M83 => i32 x84 ∧ mOk M83 ∧ (h_Ma_compute_356 G d x84 M83 Q)))))) ∧ (¬ ((cmpL (mI M29 (mR M29 a0 7) (Int.toNat ((mI M29 a0 8) - 1))) 1 = 0) ∧ (cmpL (mI M29 (mR M29 a0 7) (Int.toNat (mI M29 a0 8))) 1 = 0)) → (Ci G y_Ma_stop d [vr a0, vi 8, vi l2] M29 (fun x88 M87 => i32 x88 ∧ mOk M87 ∧ ((x88 = 0 ∨ x88 = 1) ∧ Q x88 M87)))))) ∧ (¬ (l1 = 29) → (Ci G y_JL_compare d [vl ((mI M29 (mR M29 a0 6) (Int.toNat ((mI M29 a0 8) - 1))) * (mI M29 (mR M29 a0 7) (Int.toNat (mI M29 a0 8)))), vl ((mI M29 (mR M29 a0 6) (Int.toNat (mI M29 a0 8))) * (mI M29 (mR M29 a0 7) (Int.toNat ((mI M29 a0 8) - 1))))] M29 (fun x95 M94 => i32 x95 ∧ mOk M94 ∧ (mK M94 a0 = 5 ∧ Ci G y_Ma_relate d [vr a0, vi l1, vi x95] M94 (fun x99 M98 => i32 x99 ∧ mOk M98 ∧ ((x99 = 0 ∨ x99 = 1) ∧ Q x99 M98))))))))))))))))))))) :
    Ci G y_Ma_compute (d + 1) [vr a0, vi l1, vi l2] M Q := by
  refine wm_open (y := y_Ma_compute) rfl (Nat.le_of_ble_eq_true rfl) (L := [vr a0, vi l1, vi l2, vd, vd, vd, vd, vd, vd, vd, vd]) rfl ?_
  refine wm_iload_n d_Ma_compute_0 rfl rfl ?_
  by_cases c3 : l1 = 40
  · replace h := h.1 c3
    refine wm_tableIn (tgt := 32) (off := 31) d_Ma_compute_1 hi_l1 (by omega) (by omega) (by rw [c3]; rfl) rfl ?_
    obtain ⟨h4, h⟩ := h
    obtain ⟨h5, h⟩ := h
    obtain ⟨h6, h⟩ := h
    obtain ⟨h7, h⟩ := h
    have h8 := i32_w32 (x := -(mI M (mR M a0 6) (Int.toNat ((mI M a0 8) - 1))))
    obtain ⟨M9, e10⟩ : ∃ M9, M9 = mUI M (mR M a0 6) (Int.toNat ((mI M a0 8) - 1)) (w32 (-(mI M (mR M a0 6) (Int.toNat ((mI M a0 8) - 1))))) := ⟨_, rfl⟩
    replace h := h M9 e10
    refine wm_aload_n d_Ma_compute_32 rfl rfl ?_
    refine gf_Ma_18 rfl d_Ma_compute_33 h4 ?_
    refine wm_aload_n d_Ma_compute_36 rfl rfl ?_
    refine gf_Ma_52 rfl d_Ma_compute_37 h4 ?_
    refine wm_iconst d_Ma_compute_40 ?_
    refine wm_isub d_Ma_compute_41 ?_
    refine wm_aload_n d_Ma_compute_42 rfl rfl ?_
    refine gf_Ma_18 rfl d_Ma_compute_43 h4 ?_
    refine wm_aload_n d_Ma_compute_46 rfl rfl ?_
    refine gf_Ma_52 rfl d_Ma_compute_47 h4 ?_
    refine wm_iconst d_Ma_compute_50 ?_
    refine wm_isub d_Ma_compute_51 ?_
    refine wm_iald d_Ma_compute_52 h5 h6 ?_
    refine wm_ineg d_Ma_compute_53 ?_
    refine wm_w ?_
    have hOM9 : mOk M9 := by rw [e10]; exact mOk_UI hO h8
    refine wm_iastE d_Ma_compute_54 h5 h7 h8 e10 ?_
    refine wm_iconst d_Ma_compute_55 ?_
    refine wm_ireturn d_Ma_compute_56 rfl (m_nb (by decide)) ?_
    exact ⟨_, rfl, h⟩
  · replace h := h.2 c3
    by_cases c12 : l1 = 41
    · replace h := h.1 c12
      refine wm_tableIn (tgt := 57) (off := 56) d_Ma_compute_1 hi_l1 (by omega) (by omega) (by rw [c12]; rfl) rfl ?_
      obtain ⟨h13, h⟩ := h
      obtain ⟨h14, h⟩ := h
      obtain ⟨h15, h⟩ := h
      obtain ⟨h16, h⟩ := h
      have h17 := i32_w32 (x := 1 - (mI M (mR M a0 6) (Int.toNat ((mI M a0 8) - 1))))
      obtain ⟨M18, e19⟩ : ∃ M18, M18 = mUI M (mR M a0 6) (Int.toNat ((mI M a0 8) - 1)) (w32 (1 - (mI M (mR M a0 6) (Int.toNat ((mI M a0 8) - 1))))) := ⟨_, rfl⟩
      replace h := h M18 e19
      refine wm_aload_n d_Ma_compute_57 rfl rfl ?_
      refine gf_Ma_18 rfl d_Ma_compute_58 h13 ?_
      refine wm_aload_n d_Ma_compute_61 rfl rfl ?_
      refine gf_Ma_52 rfl d_Ma_compute_62 h13 ?_
      refine wm_iconst d_Ma_compute_65 ?_
      refine wm_isub d_Ma_compute_66 ?_
      refine wm_iconst d_Ma_compute_67 ?_
      refine wm_aload_n d_Ma_compute_68 rfl rfl ?_
      refine gf_Ma_18 rfl d_Ma_compute_69 h13 ?_
      refine wm_aload_n d_Ma_compute_72 rfl rfl ?_
      refine gf_Ma_52 rfl d_Ma_compute_73 h13 ?_
      refine wm_iconst d_Ma_compute_76 ?_
      refine wm_isub d_Ma_compute_77 ?_
      refine wm_iald d_Ma_compute_78 h14 h15 ?_
      refine wm_isub d_Ma_compute_79 ?_
      refine wm_w ?_
      have hOM18 : mOk M18 := by rw [e19]; exact mOk_UI hO h17
      refine wm_iastE d_Ma_compute_80 h14 h16 h17 e19 ?_
      refine wm_iconst d_Ma_compute_81 ?_
      refine wm_ireturn d_Ma_compute_82 rfl (m_nb (by decide)) ?_
      exact ⟨_, rfl, h⟩
    · replace h := h.2 c12
      by_cases c21 : l1 = 43
      · replace h := h.1 c21
        refine wm_tableIn (tgt := 83) (off := 82) d_Ma_compute_1 hi_l1 (by omega) (by omega) (by rw [c21]; rfl) rfl ?_
        obtain ⟨h22, h⟩ := h
        refine wm_aload_n d_Ma_compute_83 rfl rfl ?_
        refine wm_iload_n d_Ma_compute_84 rfl rfl ?_
        refine wm_bipush d_Ma_compute_85 (by decide) ?_
        refine wm_idiv d_Ma_compute_87 hi_l2 ⟨by decide, by decide⟩ (by decide) ?_
        refine wm_iload_n d_Ma_compute_88 rfl rfl ?_
        refine wm_bipush d_Ma_compute_89 (by decide) ?_
        refine wm_irem d_Ma_compute_91 hi_l2 ⟨by decide, by decide⟩ (by decide) ?_
        refine cf_Ma_110 rfl d_Ma_compute_92 h22 (Nat.le_of_ble_eq_true rfl) (Ci.mono h (fun x24 M23 h => ?_))
        obtain ⟨h25, hOM23, h⟩ := h
        obtain ⟨h26, h⟩ := h
        refine wm_ireturn d_Ma_compute_95 rfl (m_nb h26) ?_
        exact ⟨_, rfl, h⟩
      · replace h := h.2 c21
        refine wm_tableD (tgt := 96) (off := 95) d_Ma_compute_1 hi_l1 (if q8 : 40 ≤ l1 ∧ l1 ≤ 43 then Or.inr ⟨q8.1, q8.2, by
      have q9 : l1 = 42 := by omega
      rcases q9 with q9 <;> (rw [q9]; rfl)⟩ else Or.inl (by omega)) rfl ?_
        obtain ⟨h27, h⟩ := h
        obtain ⟨h28, h⟩ := h
        obtain ⟨M29, e30⟩ : ∃ M29, M29 = mUI M a0 8 ((mI M a0 8) - 1) := ⟨_, rfl⟩
        replace h := h M29 e30
        obtain ⟨h31, h⟩ := h
        obtain ⟨h32, h⟩ := h
        obtain ⟨h33, h⟩ := h
        obtain ⟨h34, h⟩ := h
        obtain ⟨h35, h⟩ := h
        obtain ⟨h36, h⟩ := h
        refine wm_aload_n d_Ma_compute_96 rfl rfl ?_
        refine wm_dup d_Ma_compute_97 rfl ?_
        refine gf_Ma_52 rfl d_Ma_compute_98 h27 ?_
        refine wm_iconst d_Ma_compute_101 ?_
        refine wm_isub d_Ma_compute_102 ?_
        have hOM29 : mOk M29 := by rw [e30]; exact mOk_UI hO h28
        refine pf_Ma_52 rfl d_Ma_compute_103 h27 h28 e30 ?_
        refine wm_aload_n d_Ma_compute_106 rfl rfl ?_
        refine gf_Ma_18 rfl d_Ma_compute_107 (by rw [e30]; exact h27) ?_
        refine wm_aload_n d_Ma_compute_110 rfl rfl ?_
        refine gf_Ma_52 rfl d_Ma_compute_111 (by rw [e30]; exact h27) ?_
        refine wm_iconst d_Ma_compute_114 ?_
        refine wm_isub d_Ma_compute_115 ?_
        refine wm_iald d_Ma_compute_116 h31 h32 ?_
        refine wm_i2l d_Ma_compute_117 (hOM29 _ _).1 ?_
        refine wm_lstore_n d_Ma_compute_118 rfl (by decide) (L' := [vr a0, vi l1, vi l2, vl (mI M29 (mR M29 a0 6) (Int.toNat ((mI M29 a0 8) - 1))), vd, vd, vd, vd, vd, vd, vd]) rfl ?_
        refine wm_aload_n d_Ma_compute_119 rfl rfl ?_
        refine gf_Ma_21 rfl d_Ma_compute_120 (by rw [e30]; exact h27) ?_
        refine wm_aload_n d_Ma_compute_123 rfl rfl ?_
        refine gf_Ma_52 rfl d_Ma_compute_124 (by rw [e30]; exact h27) ?_
        refine wm_iconst d_Ma_compute_127 ?_
        refine wm_isub d_Ma_compute_128 ?_
        refine wm_iald d_Ma_compute_129 h33 h34 ?_
        refine wm_i2l d_Ma_compute_130 (hOM29 _ _).1 ?_
        refine wm_lstore d_Ma_compute_131 (by decide) (L' := [vr a0, vi l1, vi l2, vl (mI M29 (mR M29 a0 6) (Int.toNat ((mI M29 a0 8) - 1))), vd, vl (mI M29 (mR M29 a0 7) (Int.toNat ((mI M29 a0 8) - 1))), vd, vd, vd, vd, vd]) rfl ?_
        refine wm_aload_n d_Ma_compute_133 rfl rfl ?_
        refine gf_Ma_18 rfl d_Ma_compute_134 (by rw [e30]; exact h27) ?_
        refine wm_aload_n d_Ma_compute_137 rfl rfl ?_
        refine gf_Ma_52 rfl d_Ma_compute_138 (by rw [e30]; exact h27) ?_
        refine wm_iald d_Ma_compute_141 h31 h35 ?_
        refine wm_i2l d_Ma_compute_142 (hOM29 _ _).1 ?_
        refine wm_lstore d_Ma_compute_143 (by decide) (L' := [vr a0, vi l1, vi l2, vl (mI M29 (mR M29 a0 6) (Int.toNat ((mI M29 a0 8) - 1))), vd, vl (mI M29 (mR M29 a0 7) (Int.toNat ((mI M29 a0 8) - 1))), vd, vl (mI M29 (mR M29 a0 6) (Int.toNat (mI M29 a0 8))), vd, vd, vd]) rfl ?_
        refine wm_aload_n d_Ma_compute_145 rfl rfl ?_
        refine gf_Ma_21 rfl d_Ma_compute_146 (by rw [e30]; exact h27) ?_
        refine wm_aload_n d_Ma_compute_149 rfl rfl ?_
        refine gf_Ma_52 rfl d_Ma_compute_150 (by rw [e30]; exact h27) ?_
        refine wm_iald d_Ma_compute_153 h33 h36 ?_
        refine wm_i2l d_Ma_compute_154 (hOM29 _ _).1 ?_
        refine wm_lstore d_Ma_compute_155 (by decide) (L' := [vr a0, vi l1, vi l2, vl (mI M29 (mR M29 a0 6) (Int.toNat ((mI M29 a0 8) - 1))), vd, vl (mI M29 (mR M29 a0 7) (Int.toNat ((mI M29 a0 8) - 1))), vd, vl (mI M29 (mR M29 a0 6) (Int.toNat (mI M29 a0 8))), vd, vl (mI M29 (mR M29 a0 7) (Int.toNat (mI M29 a0 8))), vd]) rfl ?_
        refine wm_iload_n d_Ma_compute_157 rfl rfl ?_
        by_cases c37 : l1 = 25
        · replace h := h.1 c37
          refine wm_tableIn (tgt := 192) (off := 34) d_Ma_compute_158 hi_l1 (by omega) (by omega) (by rw [c37]; rfl) rfl ?_
          refine wm_aload_n d_Ma_compute_192 rfl rfl ?_
          refine wm_lload_n d_Ma_compute_193 rfl rfl ?_
          refine wm_lload d_Ma_compute_194 rfl ?_
          refine wm_lmul d_Ma_compute_196 ?_
          refine wm_lload d_Ma_compute_197 rfl ?_
          refine wm_lload d_Ma_compute_199 rfl ?_
          refine wm_lmul d_Ma_compute_201 ?_
          refine wm_ladd d_Ma_compute_202 ?_
          refine wm_lload d_Ma_compute_203 rfl ?_
          refine wm_lload d_Ma_compute_205 rfl ?_
          refine wm_lmul d_Ma_compute_207 ?_
          refine wm_iload_n d_Ma_compute_208 rfl rfl ?_
          refine cf_Ma_113 rfl d_Ma_compute_209 (by rw [e30]; exact h27) (Nat.le_of_ble_eq_true rfl) (Ci.mono h (fun x39 M38 h => ?_))
          obtain ⟨h40, hOM38, h⟩ := h
          obtain ⟨h41, h⟩ := h
          refine wm_ireturn d_Ma_compute_212 rfl (m_nb h41) ?_
          exact ⟨_, rfl, h⟩
        · replace h := h.2 c37
          by_cases c42 : l1 = 26
          · replace h := h.1 c42
            refine wm_tableIn (tgt := 213) (off := 55) d_Ma_compute_158 hi_l1 (by omega) (by omega) (by rw [c42]; rfl) rfl ?_
            refine wm_aload_n d_Ma_compute_213 rfl rfl ?_
            refine wm_lload_n d_Ma_compute_214 rfl rfl ?_
            refine wm_lload d_Ma_compute_215 rfl ?_
            refine wm_lmul d_Ma_compute_217 ?_
            refine wm_lload d_Ma_compute_218 rfl ?_
            refine wm_lload d_Ma_compute_220 rfl ?_
            refine wm_lmul d_Ma_compute_222 ?_
            refine wm_lsub d_Ma_compute_223 ?_
            refine wm_lload d_Ma_compute_224 rfl ?_
            refine wm_lload d_Ma_compute_226 rfl ?_
            refine wm_lmul d_Ma_compute_228 ?_
            refine wm_iload_n d_Ma_compute_229 rfl rfl ?_
            refine cf_Ma_113 rfl d_Ma_compute_230 (by rw [e30]; exact h27) (Nat.le_of_ble_eq_true rfl) (Ci.mono h (fun x44 M43 h => ?_))
            obtain ⟨h45, hOM43, h⟩ := h
            obtain ⟨h46, h⟩ := h
            refine wm_ireturn d_Ma_compute_233 rfl (m_nb h46) ?_
            exact ⟨_, rfl, h⟩
          · replace h := h.2 c42
            by_cases c47 : l1 = 27
            · replace h := h.1 c47
              refine wm_tableIn (tgt := 234) (off := 76) d_Ma_compute_158 hi_l1 (by omega) (by omega) (by rw [c47]; rfl) rfl ?_
              refine wm_aload_n d_Ma_compute_234 rfl rfl ?_
              refine wm_lload_n d_Ma_compute_235 rfl rfl ?_
              refine wm_lload d_Ma_compute_236 rfl ?_
              refine wm_lmul d_Ma_compute_238 ?_
              refine wm_lload d_Ma_compute_239 rfl ?_
              refine wm_lload d_Ma_compute_241 rfl ?_
              refine wm_lmul d_Ma_compute_243 ?_
              refine wm_iload_n d_Ma_compute_244 rfl rfl ?_
              refine cf_Ma_113 rfl d_Ma_compute_245 (by rw [e30]; exact h27) (Nat.le_of_ble_eq_true rfl) (Ci.mono h (fun x49 M48 h => ?_))
              obtain ⟨h50, hOM48, h⟩ := h
              obtain ⟨h51, h⟩ := h
              refine wm_ireturn d_Ma_compute_248 rfl (m_nb h51) ?_
              exact ⟨_, rfl, h⟩
            · replace h := h.2 c47
              by_cases c52 : l1 = 28
              · replace h := h.1 c52
                refine wm_tableIn (tgt := 249) (off := 91) d_Ma_compute_158 hi_l1 (by omega) (by omega) (by rw [c52]; rfl) rfl ?_
                refine wm_lload d_Ma_compute_249 rfl ?_
                refine wm_lconst (x := 0) d_Ma_compute_251 rfl ?_
                refine wm_lcmp d_Ma_compute_252 (i64_of32 (hOM29 _ _).1) ⟨by decide, by decide⟩ ?_
                refine wm_if_ne (tgt := 264) d_Ma_compute_253 rfl (m_cmp32 _ _) (fun c55 => ?_) (fun c55 => ?_)
                · replace h := h.2 c55
                  refine wm_lload d_Ma_compute_264 rfl ?_
                  refine wm_lconst (x := 0) d_Ma_compute_266 rfl ?_
                  refine wm_lcmp d_Ma_compute_267 (i64_of32 (hOM29 _ _).1) ⟨by decide, by decide⟩ ?_
                  refine wm_if_le (tgt := 288) d_Ma_compute_268 rfl (m_cmp32 _ _) (fun c61 => ?_) (fun c61 => ?_)
                  · replace h := h.1 c61
                    refine wm_aload_n d_Ma_compute_288 rfl rfl ?_
                    refine wm_lload_n d_Ma_compute_289 rfl rfl ?_
                    refine wm_lneg d_Ma_compute_290 ?_
                    refine wm_lload d_Ma_compute_291 rfl ?_
                    refine wm_lmul d_Ma_compute_293 ?_
                    refine wm_lload d_Ma_compute_294 rfl ?_
                    refine wm_lneg d_Ma_compute_296 ?_
                    refine wm_lload d_Ma_compute_297 rfl ?_
                    refine wm_lmul d_Ma_compute_299 ?_
                    refine wm_iload_n d_Ma_compute_300 rfl rfl ?_
                    refine cf_Ma_113 rfl d_Ma_compute_301 (by rw [e30]; exact h27) (Nat.le_of_ble_eq_true rfl) (Ci.mono h (fun x63 M62 h => ?_))
                    obtain ⟨h64, hOM62, h⟩ := h
                    refine wm_less (L' := [vd, vd, vd, vd, vd, vd, vd, vd, vd, vd, vd]) ⟨Or.inl rfl, Or.inl rfl, Or.inl rfl, Or.inl rfl, Or.inl rfl, Or.inl rfl, Or.inl rfl, Or.inl rfl, Or.inl rfl, Or.inl rfl, Or.inl rfl, trivial⟩ ?_
                    exact h
                  · replace h := h.2 c61
                    refine wm_aload_n d_Ma_compute_271 rfl rfl ?_
                    refine wm_lload_n d_Ma_compute_272 rfl rfl ?_
                    refine wm_lload d_Ma_compute_273 rfl ?_
                    refine wm_lmul d_Ma_compute_275 ?_
                    refine wm_lload d_Ma_compute_276 rfl ?_
                    refine wm_lload d_Ma_compute_278 rfl ?_
                    refine wm_lmul d_Ma_compute_280 ?_
                    refine wm_iload_n d_Ma_compute_281 rfl rfl ?_
                    refine cf_Ma_113 rfl d_Ma_compute_282 (by rw [e30]; exact h27) (Nat.le_of_ble_eq_true rfl) (Ci.mono h (fun x66 M65 h => ?_))
                    obtain ⟨h67, hOM65, h⟩ := h
                    refine wm_goto (tgt := 304) d_Ma_compute_285 rfl ?_
                    refine wm_less (L' := [vd, vd, vd, vd, vd, vd, vd, vd, vd, vd, vd]) ⟨Or.inl rfl, Or.inl rfl, Or.inl rfl, Or.inl rfl, Or.inl rfl, Or.inl rfl, Or.inl rfl, Or.inl rfl, Or.inl rfl, Or.inl rfl, Or.inl rfl, trivial⟩ ?_
                    exact h
                · replace c55 := Classical.not_not.mp c55
                  replace h := h.1 c55
                  refine wm_aload_n d_Ma_compute_256 rfl rfl ?_
                  refine wm_bipush d_Ma_compute_257 (by decide) ?_
                  refine wm_iload_n d_Ma_compute_259 rfl rfl ?_
                  refine cf_Ma_92 rfl d_Ma_compute_260 (by rw [e30]; exact h27) (Nat.le_of_ble_eq_true rfl) (Ci.mono h (fun x57 M56 h => ?_))
                  obtain ⟨h58, hOM56, h⟩ := h
                  obtain ⟨h59, h⟩ := h
                  refine wm_ireturn d_Ma_compute_263 rfl (m_nb h59) ?_
                  exact ⟨_, rfl, h⟩
              · replace h := h.2 c52
                by_cases c68 : l1 = 29
                · replace h := h.1 c68
                  refine wm_tableIn (tgt := 305) (off := 147) d_Ma_compute_158 hi_l1 (by omega) (by omega) (by rw [c68]; rfl) rfl ?_
                  refine wm_lload d_Ma_compute_305 rfl ?_
                  refine wm_lconst (x := 1) d_Ma_compute_307 rfl ?_
                  refine wm_lcmp d_Ma_compute_308 (i64_of32 (hOM29 _ _).1) ⟨by decide, by decide⟩ ?_
                  have hE0 : ((cmpL (mI M29 (mR M29 a0 7) (Int.toNat ((mI M29 a0 8) - 1))) 1 = 0) ∧ (cmpL (mI M29 (mR M29 a0 7) (Int.toNat (mI M29 a0 8))) 1 = 0)) → mWm G y_Ma_compute (d + 1) 327 [vr a0, vi l1, vi l2, vl (mI M29 (mR M29 a0 6) (Int.toNat ((mI M29 a0 8) - 1))), vd, vl (mI M29 (mR M29 a0 7) (Int.toNat ((mI M29 a0 8) - 1))), vd, vl (mI M29 (mR M29 a0 6) (Int.toNat (mI M29 a0 8))), vd, vl (mI M29 (mR M29 a0 7) (Int.toNat (mI M29 a0 8))), vd] [] M29 (fun r9 M9 => ∃ x9, r9 = some (vi x9) ∧ Q x9 M9) := by
                    intro q73
                    have h := h.1 q73
                    refine wm_lload d_Ma_compute_327 rfl ?_
                    refine wm_lconst (x := 0) d_Ma_compute_329 rfl ?_
                    refine wm_lcmp d_Ma_compute_330 (i64_of32 (hOM29 _ _).1) ⟨by decide, by decide⟩ ?_
                    refine wm_if_gt (tgt := 344) d_Ma_compute_331 rfl (m_cmp32 _ _) (fun c75 => ?_) (fun c75 => ?_)
                    · replace h := h.1 c75
                      refine wm_aload_n d_Ma_compute_344 rfl rfl ?_
                      refine wm_lload_n d_Ma_compute_345 rfl rfl ?_
                      refine wm_lload d_Ma_compute_346 rfl ?_
                      refine cf_Ma_117 rfl d_Ma_compute_348 (Nat.le_of_ble_eq_true rfl) (Cj.mono h (fun x77 M76 h => ?_))
                      obtain ⟨h78, hOM76, h⟩ := h
                      obtain ⟨h79, h⟩ := h
                      refine wm_lconst (x := 1) d_Ma_compute_351 rfl ?_
                      refine wm_iload_n d_Ma_compute_352 rfl rfl ?_
                      refine cf_Ma_113 rfl d_Ma_compute_353 h79 (Nat.le_of_ble_eq_true rfl) (Ci.mono h (fun x81 M80 h => ?_))
                      obtain ⟨h82, hOM80, h⟩ := h
                      refine wm_less (L' := [vd, vd, vd, vd, vd, vd, vd, vd, vd, vd, vd]) ⟨Or.inl rfl, Or.inl rfl, Or.inl rfl, Or.inl rfl, Or.inl rfl, Or.inl rfl, Or.inl rfl, Or.inl rfl, Or.inl rfl, Or.inl rfl, Or.inl rfl, trivial⟩ ?_
                      exact h
                    · replace h := h.2 c75
                      refine wm_aload_n d_Ma_compute_334 rfl rfl ?_
                      refine wm_bipush d_Ma_compute_335 (by decide) ?_
                      refine wm_iload_n d_Ma_compute_337 rfl rfl ?_
                      refine cf_Ma_92 rfl d_Ma_compute_338 (by rw [e30]; exact h27) (Nat.le_of_ble_eq_true rfl) (Ci.mono h (fun x84 M83 h => ?_))
                      obtain ⟨h85, hOM83, h⟩ := h
                      refine wm_goto (tgt := 356) d_Ma_compute_341 rfl ?_
                      refine wm_less (L' := [vd, vd, vd, vd, vd, vd, vd, vd, vd, vd, vd]) ⟨Or.inl rfl, Or.inl rfl, Or.inl rfl, Or.inl rfl, Or.inl rfl, Or.inl rfl, Or.inl rfl, Or.inl rfl, Or.inl rfl, Or.inl rfl, Or.inl rfl, trivial⟩ ?_
                      exact h
                  have hE1 : ¬ ((cmpL (mI M29 (mR M29 a0 7) (Int.toNat ((mI M29 a0 8) - 1))) 1 = 0) ∧ (cmpL (mI M29 (mR M29 a0 7) (Int.toNat (mI M29 a0 8))) 1 = 0)) → mWm G y_Ma_compute (d + 1) 319 [vr a0, vi l1, vi l2, vl (mI M29 (mR M29 a0 6) (Int.toNat ((mI M29 a0 8) - 1))), vd, vl (mI M29 (mR M29 a0 7) (Int.toNat ((mI M29 a0 8) - 1))), vd, vl (mI M29 (mR M29 a0 6) (Int.toNat (mI M29 a0 8))), vd, vl (mI M29 (mR M29 a0 7) (Int.toNat (mI M29 a0 8))), vd] [] M29 (fun r9 M9 => ∃ x9, r9 = some (vi x9) ∧ Q x9 M9) := by
                    intro q86
                    have h := h.2 q86
                    refine wm_aload_n d_Ma_compute_319 rfl rfl ?_
                    refine wm_bipush d_Ma_compute_320 (by decide) ?_
                    refine wm_iload_n d_Ma_compute_322 rfl rfl ?_
                    refine cf_Ma_92 rfl d_Ma_compute_323 (by rw [e30]; exact h27) (Nat.le_of_ble_eq_true rfl) (Ci.mono h (fun x88 M87 h => ?_))
                    obtain ⟨h89, hOM87, h⟩ := h
                    obtain ⟨h90, h⟩ := h
                    refine wm_ireturn d_Ma_compute_326 rfl (m_nb h90) ?_
                    exact ⟨_, rfl, h⟩
                  clear h
                  refine wm_if_ne (tgt := 319) d_Ma_compute_309 rfl (m_cmp32 _ _) (fun c71 => ?_) (fun c71 => ?_)
                  · exact hE1 (fun z93 => c71 z93.1)
                  · replace c71 := Classical.not_not.mp c71
                    refine wm_lload d_Ma_compute_312 rfl ?_
                    refine wm_lconst (x := 1) d_Ma_compute_314 rfl ?_
                    refine wm_lcmp d_Ma_compute_315 (i64_of32 (hOM29 _ _).1) ⟨by decide, by decide⟩ ?_
                    refine wm_if_eq (tgt := 327) d_Ma_compute_316 rfl (m_cmp32 _ _) (fun c70 => ?_) (fun c70 => ?_)
                    · exact hE0 ⟨c71, c70⟩
                    · exact hE1 (fun z91 => c70 z91.2)
                · replace h := h.2 c68
                  refine wm_tableOut (tgt := 357) d_Ma_compute_158 hi_l1 (by omega) rfl ?_
                  refine wm_aload_n d_Ma_compute_357 rfl rfl ?_
                  refine wm_iload_n d_Ma_compute_358 rfl rfl ?_
                  refine wm_lload_n d_Ma_compute_359 rfl rfl ?_
                  refine wm_lload d_Ma_compute_360 rfl ?_
                  refine wm_lmul d_Ma_compute_362 ?_
                  refine wm_lload d_Ma_compute_363 rfl ?_
                  refine wm_lload d_Ma_compute_365 rfl ?_
                  refine wm_lmul d_Ma_compute_367 ?_
                  refine cf_Ma_123 rfl d_Ma_compute_368 (Nat.le_of_ble_eq_true rfl) (Ci.mono h (fun x95 M94 h => ?_))
                  obtain ⟨h96, hOM94, h⟩ := h
                  obtain ⟨h97, h⟩ := h
                  refine cf_Ma_129 rfl d_Ma_compute_371 h97 (Nat.le_of_ble_eq_true rfl) (Ci.mono h (fun x99 M98 h => ?_))
                  obtain ⟨h100, hOM98, h⟩ := h
                  obtain ⟨h101, h⟩ := h
                  refine wm_ireturn d_Ma_compute_374 rfl (m_nb h101) ?_
                  exact ⟨_, rfl, h⟩
theorem k_TR_settleVar_76w {G : mG} {d : Nat} {a0 : Nat} {l1 : Int} {k0 : Int} {M : mM} {Q : mM → Prop} (hO : mOk M) (hi_l1 : i32 l1) (hi_k0 : i32 k0)
    (h : True ∧ (((k0 < l1) ∨ (¬ (w32 (k0 - l1) < 10000))) → (mK M a0 = 3 ∧ mK M (mR M a0 6) = 30 ∧ ((0 : Int) ≤ 1 ∧ 1 < (mN M (mR M a0 6) : Int)) ∧ mK M (mR M a0 0) = 4 ∧ Cv G y_RR_note d [vr (mR M a0 0), vi 9, vi (mI M (mR M a0 6) 1)] M (fun M50 => mOk M50 ∧ (h_TR_settleVar_106 G d a0 l1 k0 M50 Q)))) ∧ (¬ ((k0 < l1) ∨ (¬ (w32 (k0 - l1) < 10000))) → (h_TR_settleVar_106 G d a0 l1 k0 M Q))) :
    h_TR_settleVar_76 G d a0 l1 k0 M Q := by
  unfold h_TR_settleVar_76
  refine wm_istore_n d_TR_settleVar_76 rfl (by decide) (L' := [vr a0, vi l1, vi k0, vd]) rfl ?_
  refine wm_iload_n d_TR_settleVar_77 rfl rfl ?_
  refine wm_iload_n d_TR_settleVar_78 rfl rfl ?_
  obtain ⟨s44, h⟩ := h
  have hE0 : ((k0 < l1) ∨ (¬ (w32 (k0 - l1) < 10000))) → mWm G y_TR_settleVar (d + 1) 91 [vr a0, vi l1, vi k0, vd] [] M (fun r9 M9 => r9 = none ∧ Q M9) := by
    intro q45
    have h := h.1 q45
    obtain ⟨h46, h⟩ := h
    obtain ⟨h47, h⟩ := h
    obtain ⟨h48, h⟩ := h
    obtain ⟨h49, h⟩ := h
    refine wm_aload_n d_TR_settleVar_91 rfl rfl ?_
    refine gf_TR_12 rfl d_TR_settleVar_92 h46 ?_
    refine wm_bipush d_TR_settleVar_95 (by decide) ?_
    refine wm_aload_n d_TR_settleVar_97 rfl rfl ?_
    refine gf_TR_29 rfl d_TR_settleVar_98 h46 ?_
    refine wm_iconst d_TR_settleVar_101 ?_
    refine wm_iald d_TR_settleVar_102 h47 h48 ?_
    refine cf_TR_95 rfl d_TR_settleVar_103 h49 (Nat.le_of_ble_eq_true rfl) (Cv.mono h (fun M50 h => ?_))
    obtain ⟨hOM50, h⟩ := h
    exact h
  have hE1 : ¬ ((k0 < l1) ∨ (¬ (w32 (k0 - l1) < 10000))) → mWm G y_TR_settleVar (d + 1) 106 [vr a0, vi l1, vi k0, vd] [] M (fun r9 M9 => r9 = none ∧ Q M9) := by
    intro q53
    have h := h.2 q53
    exact h
  clear h
  refine wm_icmp_lt (tgt := 91) d_TR_settleVar_79 rfl hi_k0 hi_l1 (fun c43 => ?_) (fun c43 => ?_)
  · exact hE0 (Or.inl c43)
  · have h41 := i32_w32 (x := k0 - l1)
    refine wm_iload_n d_TR_settleVar_82 rfl rfl ?_
    refine wm_iload_n d_TR_settleVar_83 rfl rfl ?_
    refine wm_isub d_TR_settleVar_84 ?_
    refine wm_w ?_
    refine wm_sipush d_TR_settleVar_85 (by decide) ?_
    refine wm_icmp_lt (tgt := 106) d_TR_settleVar_88 rfl h41 ⟨by decide, by decide⟩ (fun c42 => ?_) (fun c42 => ?_)
    · exact hE1 (fun z55 => Or.elim z55 c43 (fun z56 => z56 c42))
    · exact hE0 (Or.inr c42)
theorem k_Ga_enter_4w {G : mG} {d : Nat} {a0 : Nat} {l1 : Int} {l2 : Int} {M : mM} {Q : Int → mM → Prop} (hO : mOk M) (hi_l1 : i32 l1) (hi_l2 : i32 l2)
    (h : mK M a0 = 7 ∧ mK M (mR M a0 14) = 6 ∧ ((mI M (mR M a0 14) 3 ≤ l2) → (h_Ga_enter_51 G d a0 (andI (xorI l1 (ushrI l1 15)) 1023) 0 M Q)) ∧ (¬ (mI M (mR M a0 14) 3 ≤ l2) → (mK M (mR M a0 15) = 5 ∧ mK M (mR M (mR M a0 15) 5) = 30 ∧ ((0 : Int) ≤ l2 ∧ l2 < (mN M (mR M (mR M a0 15) 5) : Int)) ∧ h_Ga_enter_4 G d a0 (w32 ((l1 * 31) + (mI M (mR M (mR M a0 15) 5) (Int.toNat l2)))) (l2 + 1) M Q))) :
    h_Ga_enter_4 G d a0 l1 l2 M Q := by
  unfold h_Ga_enter_4
  obtain ⟨h1, h⟩ := h
  obtain ⟨h2, h⟩ := h
  refine wm_iload_n d_Ga_enter_4 rfl rfl ?_
  refine wm_aload_n d_Ga_enter_5 rfl rfl ?_
  refine gf_Ga_72 rfl d_Ga_enter_6 h1 ?_
  refine gf_Ga_91 rfl d_Ga_enter_9 h2 ?_
  refine wm_icmp_ge (tgt := 36) d_Ga_enter_12 rfl hi_l2 (hO _ _).1 (fun c7 => ?_) (fun c7 => ?_)
  · replace h := h.1 c7
    refine wm_iload_n d_Ga_enter_36 rfl rfl ?_
    refine wm_iload_n d_Ga_enter_37 rfl rfl ?_
    refine wm_bipush d_Ga_enter_38 (by decide) ?_
    refine wm_iushr d_Ga_enter_40 ?_
    refine wm_ixor d_Ga_enter_41 ?_
    refine wm_istore_n d_Ga_enter_42 rfl (by decide) (L' := [vr a0, vi (xorI l1 (ushrI l1 15)), vi l2, vd]) rfl ?_
    refine wm_iload_n d_Ga_enter_43 rfl rfl ?_
    refine wm_sipush d_Ga_enter_44 (by decide) ?_
    refine wm_iand d_Ga_enter_47 ?_
    refine wm_istore_n d_Ga_enter_48 rfl (by decide) (L' := [vr a0, vi (xorI l1 (ushrI l1 15)), vi (andI (xorI l1 (ushrI l1 15)) 1023), vd]) rfl ?_
    refine wm_iconst d_Ga_enter_49 ?_
    refine wm_istore_n d_Ga_enter_50 rfl (by decide) (L' := [vr a0, vi (xorI l1 (ushrI l1 15)), vi (andI (xorI l1 (ushrI l1 15)) 1023), vi 0]) rfl ?_
    refine wm_less (L' := [vr a0, vd, vi (andI (xorI l1 (ushrI l1 15)) 1023), vi 0]) ⟨Or.inr rfl, Or.inl rfl, Or.inr rfl, Or.inr rfl, trivial⟩ ?_
    exact h
  · replace h := h.2 c7
    obtain ⟨h8, h⟩ := h
    obtain ⟨h9, h⟩ := h
    obtain ⟨h10, h⟩ := h
    refine wm_iload_n d_Ga_enter_15 rfl rfl ?_
    refine wm_bipush d_Ga_enter_16 (by decide) ?_
    refine wm_imul d_Ga_enter_18 ?_
    refine wm_aload_n d_Ga_enter_19 rfl rfl ?_
    refine gf_Ga_42 rfl d_Ga_enter_20 h1 ?_
    refine gf_Ga_83 rfl d_Ga_enter_23 h8 ?_
    refine wm_iload_n d_Ga_enter_26 rfl rfl ?_
    refine wm_iald d_Ga_enter_27 h9 h10 ?_
    refine wm_iadd d_Ga_enter_28 ?_
    refine wm_w ?_
    refine wm_istore_n d_Ga_enter_29 rfl (by decide) (L' := [vr a0, vi (w32 ((l1 * 31) + (mI M (mR M (mR M a0 15) 5) (Int.toNat l2)))), vi l2, vd]) rfl ?_
    refine wm_iinc d_Ga_enter_30 (by decide) rfl (L' := [vr a0, vi (w32 ((l1 * 31) + (mI M (mR M (mR M a0 15) 5) (Int.toNat l2)))), vi (l2 + 1), vd]) rfl ?_
    refine wm_goto (tgt := 4) d_Ga_enter_33 rfl ?_
    exact h
end
end
section
section
/-! The class's machine: places, push. -/
section MAA
variable {G : mG} {d z m U Ab Be C Ab0 Be0 C0 t c p O P K : Nat} {M0 M M' M1 M2 : mM} {S R : Nat → Prop}
theorem s_JA_copyOf {a l : Nat} (hO : mOk M) (hK : mK M a = 30) (ha : a < mZ M) (hl : mN M a < l) (hl2 : l ≤ 16777216) : Cr G y_JA_copyOf (d + 1) [vr a, vi l] M (fun x M' => x = mZ M ∧ mOk M' ∧ FA (fun _ => False) (fun _ => False) M M' ∧ mZ M' = mZ M + 1 ∧ mS M' = mS M + l ∧ mK M' (mZ M) = 30 ∧ mN M' (mZ M) = l ∧ ∀ j, j < mN M a → mI M' (mZ M) j = mI M a j) := by
  refine k_JA_copyOf hO ⟨by omega, by omega⟩ ⟨hK, ⟨by omega, by omega⟩, fun y => absurd y (by omega), fun _ => ⟨⟨by omega, by omega⟩, fun M7 e7 => ?_⟩⟩
  rw [Int.toNat_natCast] at e7
  have f7 : FA (fun _ => False) (fun _ => False) M M7 := FA.new e7
  have n7 : mN M7 a = mN M a := (f7.2 a ha).2.1
  have k7 : mK M7 a = mK M a := (f7.2 a ha).1
  have l7 : mN M7 (mZ M) = l := by rw [e7, mN_New, if_pos rfl]
  have o7 : mOk M7 := by rw [e7]; exact mOk_New hO
  have i7 : mI M7 a = mI M a := (f7.2 a ha).2.2.2.2 (fun q => q)
  rw [n7, k7, l7, if_neg (by omega), Int.toNat_natCast]
  refine ⟨hK, ⟨by omega, by omega⟩, ⟨by omega, by omega, by omega, by omega, by omega⟩, fun M12 e12 => ?_⟩
  have g12 : FA (fun _ => False) (fun _ => False) M M12 := by
    refine ⟨by rw [e12]; exact f7.1, fun x hx => ?_⟩
    obtain ⟨b1, b2, b3, b4, b5⟩ := f7.2 x hx
    refine ⟨by rw [e12]; exact b1, by rw [e12]; exact b2, by rw [e12]; exact b3, fun q => by rw [e12]; exact b4 q, fun q => ?_⟩
    rw [← b5 q, e12]
    funext j
    exact if_neg (fun u => by have := u.1; omega)
  refine ⟨rfl, by rw [e12]; exact mOk_Cpy o7, g12, by rw [e12]; show mZ M7 = mZ M + 1; rw [e7]; rfl, by rw [e12]; show mS M7 = mS M + l; rw [e7]; rfl, by rw [e12]; show mK M7 (mZ M) = 30; rw [e7, mK_New, if_pos rfl], by rw [e12]; exact l7, fun j hj => ?_⟩
  rw [e12]
  show (if mZ M = mZ M ∧ 0 ≤ j ∧ j < 0 + mN M a then mI M7 a (0 + (j - 0)) else mI M7 (mZ M) j) = mI M a j
  rw [if_pos ⟨rfl, by omega, by omega⟩, i7]
  simp
/-- the machine's places: m the machine, U its numbers, Ab and Be its pile -/
def MK (M : mM) (z m U Ab Be C : Nat) : Prop := mK M m = 5 ∧ (mR M m 3 = U ∧ mR M m 5 = m + 2 ∧ mR M m 6 = Ab ∧ mR M m 7 = Be ∧ mR M m 10 = m + 5 ∧ mR M m 11 = m + 6 ∧ mR M m 12 = m + 7 ∧ mR M m 13 = m + 8 ∧ mR M m 14 = m + 9) ∧ (mK M U = 30 ∧ mK M (m + 2) = 30 ∧ mK M Ab = 30 ∧ mK M Be = 30 ∧ mK M (m + 5) = 30 ∧ mK M (m + 6) = 30 ∧ mK M (m + 7) = 30 ∧ mK M (m + 8) = 30 ∧ mK M (m + 9) = 30) ∧ (mN M (m + 2) = 12 ∧ mN M Ab = C ∧ mN M Be = C ∧ mN M (m + 5) = 60 ∧ mN M (m + 6) = 60 ∧ mN M (m + 7) = 60 ∧ mN M (m + 8) = 61 ∧ mN M (m + 9) = 61) ∧ (0 ≤ mI M m 4 ∧ mI M m 4 + 12 ≤ mN M U) ∧ ((Ab = m + 3 ∨ z ≤ Ab) ∧ (Be = m + 4 ∨ z ≤ Be) ∧ Ab ≠ Be ∧ m + 10 ≤ z) ∧ (z ≤ mZ M ∧ Ab < mZ M ∧ Be < mZ M ∧ U < mZ M) ∧ (64 ≤ C ∧ C ≤ 32768)
/-- the cells that a run may change -/
def mcS (m Ab Be : Nat) : Nat → Prop := fun x => x = m ∨ x = m + 2 ∨ (m + 5 ≤ x ∧ x ≤ m + 9) ∨ x = Ab ∨ x = Be
/-- the machine on its way: t values on the pile, c calls -/
def MS (M0 : mM) (z m U Ab0 Be0 C0 : Nat) (M : mM) (t c : Nat) : Prop := ∃ Ab Be C, mOk M ∧ MK M z m U Ab Be C ∧ FA (mcS m Ab0 Be0) (fun x => x = m) M0 M ∧ ((Ab = Ab0 ∨ mZ M0 ≤ Ab) ∧ (Be = Be0 ∨ mZ M0 ≤ Be)) ∧ (mS M + 4 * C0 = mS M0 + 4 * C ∧ 32 * mZ M + C0 ≤ 32 * mZ M0 + C) ∧ (mI M m 8 = t ∧ t ≤ C ∧ ∀ j, j < t → 1 ≤ mI M Be j ∧ mI M Be j < 1000000000) ∧ mI M m 15 = c ∧ (mI M m 9 = mI M0 m 9 ∧ mI M m 4 = mI M0 m 4 ∧ mR M m 0 = mR M0 m 0)
/-- only ints of the machine's cells change -/
theorem MK.fi (h : MK M z m U Ab Be C) (f : FI S M M') (h4 : mI M' m 4 = mI M m 4) : MK M' z m U Ab Be C := by
  obtain ⟨f1, f2, f3, f4, f5, -⟩ := f
  unfold MK at h ⊢
  rw [f1, f2, f3, f5, h4]
  exact h
/-- a step that keeps the places -/
theorem ms_step {t' c' : Nat} (ok : mOk M') (hk : MK M z m U Ab Be C) (hf : FA (mcS m Ab0 Be0) (fun x => x = m) M0 M) (hab : (Ab = Ab0 ∨ mZ M0 ≤ Ab) ∧ (Be = Be0 ∨ mZ M0 ≤ Be)) (hr : mS M + 4 * C0 = mS M0 + 4 * C ∧ 32 * mZ M + C0 ≤ 32 * mZ M0 + C) (hm : mI M m 9 = mI M0 m 9 ∧ mI M m 4 = mI M0 m 4 ∧ mR M m 0 = mR M0 m 0) (f : FI (mcS m Ab Be) M M') (h4 : mI M' m 4 = mI M m 4) (h9 : mI M' m 9 = mI M m 9) (ht : mI M' m 8 = t') (htC : t' ≤ C) (hb : ∀ j, j < t' → 1 ≤ mI M' Be j ∧ mI M' Be j < 1000000000) (hc : mI M' m 15 = c') : MS M0 z m U Ab0 Be0 C0 M' t' c' := by
  refine ⟨Ab, Be, C, ok, hk.fi f h4, hf.trans2 (FI.fa f) (fun x hx q => ?_) (fun x _ q => q), hab, by rw [f.2.2.2.2.1, f.2.2.2.2.2.1]; exact hr, ⟨ht, htC, hb⟩, hc, by rw [h9]; exact hm.1, by rw [h4]; exact hm.2.1, by rw [f.2.2.1]; exact hm.2.2⟩
  rcases q with q | q | q | q | q
  · exact Or.inl q
  · exact Or.inr (Or.inl q)
  · exact Or.inr (Or.inr (Or.inl q))
  · rcases hab.1 with e | e
    · exact Or.inr (Or.inr (Or.inr (Or.inl (by omega))))
    · omega
  · rcases hab.2 with e | e
    · exact Or.inr (Or.inr (Or.inr (Or.inr (by omega))))
    · omega
theorem mI_ui {a j : Nat} {x : Int} (b i : Nat) (e : M' = mUI M a j x) : mI M' b i = if b = a ∧ i = j then x else mI M b i := by rw [e, mI_UI]
/-- the tables of the machine that a push leaves alone -/
def mtb (m : Nat) (M M' : mM) : Prop := ∀ b, m + 5 ≤ b → b ≤ m + 9 → mI M' b = mI M b
end MAA
end
section
/-! The class's machine: stop, settle, relate, store, compute. -/
section MAB
variable {G : mG} {d z m U Ab Be C Ab0 Be0 C0 t c p O P K : Nat} {M0 M M' M1 M2 : mM} {S R : Nat → Prop}
theorem mtb.refl : mtb m M M := fun _ _ _ => rfl
theorem mtb.trans (h : mtb m M M1) (k : mtb m M1 M2) : mtb m M M2 := fun b h1 h2 => by rw [k b h1 h2, h b h1 h2]
theorem PK.fa (h : PK M z p O P K) (f : FA S R M M') (hp : ¬ R p) : PK M' z p O P K := by
  obtain ⟨h1, ⟨r0, r1⟩, ⟨k0, k1, n0, n1⟩, sp, ⟨z0, z1, z2⟩, hc, hl⟩ := id h
  have hpz : p < mZ M := by omega
  have zz := f.1.1
  obtain ⟨fp1, -, -, fp4, -⟩ := f.2 p hpz
  have fp := fp4 hp
  obtain ⟨fO1, fO2, -⟩ := f.2 O z1
  obtain ⟨fP1, fP2, -⟩ := f.2 P z2
  refine ⟨by rw [fp1]; exact h1, by rw [fp]; exact ⟨r0, r1⟩, by rw [fO1, fO2, fP1, fP2]; exact ⟨k0, k1, n0, n1⟩, sp, ⟨by omega, by omega, by omega⟩, hc, ?_⟩
  have kk : ∀ i, i ≤ 15 → mK M' (p + i) = mK M (p + i) := fun i hi => (f.2 (p + i) (by omega)).1
  have nn : ∀ i, i ≤ 15 → mN M' (p + i) = mN M (p + i) := fun i hi => (f.2 (p + i) (by omega)).2.1
  unfold PL at hl ⊢
  rw [fp, kk 3 (by omega), kk 4 (by omega), kk 5 (by omega), kk 6 (by omega), kk 7 (by omega), kk 8 (by omega), kk 9 (by omega), kk 10 (by omega), kk 11 (by omega), kk 12 (by omega), kk 13 (by omega), kk 14 (by omega), kk 15 (by omega), nn 3 (by omega), nn 4 (by omega), nn 5 (by omega), nn 6 (by omega), nn 7 (by omega), nn 8 (by omega), nn 9 (by omega), nn 10 (by omega), nn 11 (by omega), nn 12 (by omega), nn 13 (by omega), nn 14 (by omega), nn 15 (by omega)]
  exact hl
/-- a field of the machine is written -/
theorem ms_fld {j : Nat} {v : Int} (h : MS M0 z m U Ab0 Be0 C0 M t c) (hv : i32 v) (e : M' = mUI M m j v) (j4 : j ≠ 4) (j8 : j ≠ 8) (j9 : j ≠ 9) (j15 : j ≠ 15) : MS M0 z m U Ab0 Be0 C0 M' t c ∧ mtb m M M' := by
  obtain ⟨Ab, Be, C, ok, hk, hf, hab, hr, ⟨h8, htC, hb⟩, hc, hm⟩ := h
  have f : FI (fun b => b = m) M M' := by rw [e]; exact FI.ui rfl
  have g : ∀ i, i ≠ j → mI M' m i = mI M m i := fun i hi => by rw [mI_ui m i e, if_neg (fun q => hi q.2)]
  have mB : Be ≠ m := by have := hk.2.2.2.2.2.1; omega
  refine ⟨ms_step (t' := t) (c' := c) (by rw [e]; exact mOk_UI ok hv) hk hf hab hr hm (f.mono (fun _ q => Or.inl q)) (g 4 (fun q => j4 q.symm)) (g 9 (fun q => j9 q.symm)) (by rw [g 8 (fun q => j8 q.symm)]; exact h8) htC (fun i hi => by rw [f.2.2.2.2.2.2 Be mB]; exact hb i hi) (by rw [g 15 (fun q => j15 q.symm)]; exact hc), fun b h1 h2 => f.2.2.2.2.2.2 b (by omega)⟩
/-- the pile gets lower -/
theorem ms_top {t' : Nat} {v : Int} (h : MS M0 z m U Ab0 Be0 C0 M t c) (hv : v = t') (htt : t' ≤ t) (e : M' = mUI M m 8 v) : MS M0 z m U Ab0 Be0 C0 M' t' c ∧ mtb m M M' ∧ FI (fun b => b = m) M M' := by
  obtain ⟨Ab, Be, C, ok, hk, hf, hab, hr, ⟨h8, htC, hb⟩, hc, hm⟩ := h
  have f : FI (fun b => b = m) M M' := by rw [e]; exact FI.ui rfl
  have g : ∀ i, i ≠ 8 → mI M' m i = mI M m i := fun i hi => by rw [mI_ui m i e, if_neg (fun q => hi q.2)]
  have mB : Be ≠ m := by have := hk.2.2.2.2.2.1; omega
  have c32 := hk.2.2.2.2.2.2.2.2
  refine ⟨ms_step (t' := t') (c' := c) (by rw [e]; exact mOk_UI ok (by rw [hv]; exact ⟨by omega, by omega⟩)) hk hf hab hr hm (f.mono (fun _ q => Or.inl q)) (g 4 (by decide)) (g 9 (by decide)) (by rw [mI_ui m 8 e, if_pos ⟨rfl, rfl⟩]; exact hv) (by omega) (fun i hi => by rw [f.2.2.2.2.2.2 Be mB]; exact hb i (by omega)) (by rw [g 15 (by decide)]; exact hc), fun b h1 h2 => f.2.2.2.2.2.2 b (by omega), f⟩
/-- a value of the pile is written -/
theorem ms_val {j : Nat} {x y : Int} (h : MS M0 z m U Ab0 Be0 C0 M t c) (hj : j < t) (hx : i32 x) (hy : 1 ≤ y ∧ y < 1000000000) (e1 : M1 = mUI M (mR M m 6) j x) (e2 : M2 = mUI M1 (mR M1 m 7) j y) : MS M0 z m U Ab0 Be0 C0 M2 t c ∧ mtb m M M2 := by
  obtain ⟨Ab, Be, C, ok, hk, hf, hab, hr, ⟨h8, htC, hb⟩, hc, hm⟩ := h
  have r6 := hk.2.1.2.2.1
  have r7 := hk.2.1.2.2.2.1
  obtain ⟨sA, sB, sne, sz⟩ := hk.2.2.2.2.2.1
  rw [r6] at e1
  have f1 : FI (fun b => b = Ab) M M1 := by rw [e1]; exact FI.ui rfl
  rw [f1.2.2.1, r7] at e2
  have f2 : FI (fun b => b = Be) M1 M2 := by rw [e2]; exact FI.ui rfl
  have g : mI M2 m = mI M m := by rw [f2.2.2.2.2.2.2 m (by omega), f1.2.2.2.2.2.2 m (by omega)]
  refine ⟨ms_step (t' := t) (c' := c) (by rw [e2]; exact mOk_UI (by rw [e1]; exact mOk_UI ok hx) ⟨by omega, by omega⟩) hk hf hab hr hm ((f1.mono (fun _ q => Or.inr (Or.inr (Or.inr (Or.inl q))))).trans (f2.mono (fun _ q => Or.inr (Or.inr (Or.inr (Or.inr q)))))) (by rw [g]) (by rw [g]) (by rw [g]; exact h8) htC (fun i hi => ?_) (by rw [g]; exact hc), fun b h1 h2 => by rw [f2.2.2.2.2.2.2 b (by omega), f1.2.2.2.2.2.2 b (by omega)]⟩
  rw [mI_ui Be i e2]
  by_cases y0 : i = j
  · rw [if_pos ⟨rfl, y0⟩]; exact hy
  · rw [if_neg (fun q => y0 q.2), f1.2.2.2.2.2.2 Be (fun q => sne q.symm)]; exact hb i hi
/-- only the value above is written -/
theorem ms_abv {j : Nat} {x : Int} (h : MS M0 z m U Ab0 Be0 C0 M t c) (hx : i32 x) (e1 : M1 = mUI M (mR M m 6) j x) : MS M0 z m U Ab0 Be0 C0 M1 t c ∧ mtb m M M1 := by
  obtain ⟨Ab, Be, C, ok, hk, hf, hab, hr, ⟨h8, htC, hb⟩, hc, hm⟩ := h
  have r6 := hk.2.1.2.2.1
  obtain ⟨sA, sB, sne, sz⟩ := hk.2.2.2.2.2.1
  rw [r6] at e1
  have f1 : FI (fun b => b = Ab) M M1 := by rw [e1]; exact FI.ui rfl
  have g : mI M1 m = mI M m := f1.2.2.2.2.2.2 m (by omega)
  exact ⟨ms_step (t' := t) (c' := c) (by rw [e1]; exact mOk_UI ok hx) hk hf hab hr hm (f1.mono (fun _ q => Or.inr (Or.inr (Or.inr (Or.inl q))))) (by rw [g]) (by rw [g]) (by rw [g]; exact h8) htC (fun i hi => by rw [f1.2.2.2.2.2.2 Be (fun q => sne q.symm)]; exact hb i hi) (by rw [g]; exact hc), fun b h1 h2 => f1.2.2.2.2.2.2 b (by omega)⟩
/-- the pile's places and what is on top -/
theorem MS.pile (h : MS M0 z m U Ab0 Be0 C0 M t c) : mOk M ∧ mK M m = 5 ∧ mI M m 8 = t ∧ mK M (mR M m 6) = 30 ∧ mK M (mR M m 7) = 30 ∧ (t : Int) ≤ mN M (mR M m 6) ∧ (t : Int) ≤ mN M (mR M m 7) ∧ mN M (mR M m 6) ≤ 32768 ∧ mN M (mR M m 7) ≤ 32768 ∧ (∀ j, j < t → 1 ≤ mI M (mR M m 7) j ∧ mI M (mR M m 7) j < 1000000000) ∧ (m ≠ mR M m 6 ∧ m ≠ mR M m 7) ∧ mR M m 6 ≠ mR M m 7 := by
  obtain ⟨Ab, Be, C, ok, hk, hf, hab, hr, ⟨h8, htC, hb⟩, hc, hm⟩ := h
  obtain ⟨k0, ⟨r3, r5, r6, r7, -⟩, ⟨kU, k2, kA, kB, -⟩, ⟨n2, nA, nB, -⟩, hbs, ⟨sA, sB, sne, sz⟩, -, ⟨c64, c32⟩⟩ := hk
  rw [r6, r7, nA, nB]
  exact ⟨ok, k0, h8, kA, kB, by omega, by omega, by omega, by omega, hb, ⟨by omega, by omega⟩, sne⟩
end MAB
end
section
/-! The class's machine: relate, store, compute. -/
section MAC
variable {G : mG} {d z m U Ab Be C Ab0 Be0 C0 t s c p O P K : Nat} {M0 M M' M1 M2 : mM} {S R : Nat → Prop}
/-- what Math.floorMod answers -/
def FMs (G : mG) : Prop := ∀ (d : Nat) (M : mM) (x y : Int), mOk M → i64 x → 0 < y → i64 y → Cj G y_JM_floorMod d [vl x, vl y] M (fun v M' => M' = M ∧ 0 ≤ v ∧ v < y)
/-- a number that is set -/
theorem ms_nxt {j : Nat} {x : Int} (h : MS M0 z m U Ab0 Be0 C0 M t c) (hx : i32 x) (e1 : M1 = mUI M (m + 2) j x) : MS M0 z m U Ab0 Be0 C0 M1 t c ∧ mtb m M M1 := by
  obtain ⟨Ab, Be, C, ok, hk, hf, hab, hr, ⟨h8, htC, hb⟩, hc, hm⟩ := h
  obtain ⟨sA, sB, sne, sz⟩ := hk.2.2.2.2.2.1
  have f1 : FI (fun b => b = m + 2) M M1 := by rw [e1]; exact FI.ui rfl
  have g : mI M1 m = mI M m := f1.2.2.2.2.2.2 m (by omega)
  exact ⟨ms_step (t' := t) (c' := c) (by rw [e1]; exact mOk_UI ok hx) hk hf hab hr hm (f1.mono (fun _ q => Or.inr (Or.inl q))) (by rw [g]) (by rw [g]) (by rw [g]; exact h8) htC (fun i hi => by rw [f1.2.2.2.2.2.2 Be (by omega)]; exact hb i hi) (by rw [g]; exact hc), fun b h1 h2 => f1.2.2.2.2.2.2 b (by omega)⟩
theorem mulab {x y : Int} {A B : Nat} (hx : x.natAbs ≤ A) (hy : y.natAbs ≤ B) : (x * y).natAbs ≤ A * B := by
  rw [Int.natAbs_mul]
  exact Nat.mul_le_mul hx hy
end MAC
end
section
/-! The class's machine: meet, comeBack. -/
section MAD
variable {G : mG} {d z m U Ab Be C Ab0 Be0 C0 t s c p O P K : Nat} {M0 M M' M1 M2 : mM} {S R : Nat → Prop}
end MAD
end
section
/-! The class's machine: run. -/
theorem t6p {O p z m A B : Nat} (a1 : p + 15 < m ∨ m + 9 < p) (s : O = p + 1 ∨ z ≤ O) (a6 : m + 9 < z) (n1 : O ≠ A) (n2 : O ≠ B) (q : O = m ∨ O = m + 2 ∨ (m + 5 ≤ O ∧ O ≤ m + 9) ∨ O = A ∨ O = B) : False := by
  rcases q with q | q | q | q | q
  · omega
  · omega
  · omega
  · exact n1 q
  · exact n2 q
theorem t6q {O p z m A B : Nat} (a1 : p + 15 < m ∨ m + 9 < p) (s : O = p + 2 ∨ z ≤ O) (a6 : m + 9 < z) (n1 : O ≠ A) (n2 : O ≠ B) (q : O = m ∨ O = m + 2 ∨ (m + 5 ≤ O ∧ O ≤ m + 9) ∨ O = A ∨ O = B) : False := by
  rcases q with q | q | q | q | q
  · omega
  · omega
  · omega
  · exact n1 q
  · exact n2 q
theorem t6r {p z m A B i : Nat} (a1 : p + 15 < m ∨ m + 9 < p) (a7 : p + 16 ≤ z) (a8 : A = m + 3 ∨ z ≤ A) (a9 : B = m + 4 ∨ z ≤ B) (hi : i ≤ 15) (q : p + i = m ∨ p + i = m + 2 ∨ (m + 5 ≤ p + i ∧ p + i ≤ m + 9) ∨ p + i = A ∨ p + i = B) : False := by
  rcases q with q | q | q | q | q
  · omega
  · omega
  · omega
  · clear a9; omega
  · clear a8; omega
section MAE
variable {G : mG} {d z m U Ab Be C Ab0 Be0 C0 t s c p O P K L V F E F0 : Nat} {M0 M M' M1 M2 : mM} {S R X : Nat → Prop} {ns : Nat → Int} {sf ef : Nat → Nat} {H : Nat → Nat}
/-- a piece of code from s to e, where its END stands; heights H, at its end h -/
def Cod (M : mM) (O P V F : Nat) (ns : Nat → Int) (s e : Nat) (H : Nat → Nat) (h : Nat) : Prop := CO M O P V F ns H s e (fun _ => False) ∧ H s = 0 ∧ H e = h ∧ h + s ≤ e ∧ mI M O e = 0 ∧ s ≤ e
/-- the names below F: consts have values, formulas have code; each formula's code stands before its users' -/
def FO (M : mM) (p O P V : Nat) (ns : Nat → Int) (sf ef : Nat → Nat) (L F : Nat) : Prop := ∀ x, x < F → (ns x = 4 → 1 ≤ mI M (p + 7) x ∧ mI M (p + 7) x < 1000000000) ∧ (ns x = 7 → mI M (p + 8) x = sf x ∧ (∃ H, Cod M O P V x ns (sf x) (ef x) H 1) ∧ ef x < L ∧ ∀ y, y < x → ns y = 7 → ef y < sf x)
/-- c calls are open: T values lie below the piece of code that runs -/
def Cs (M0 : mM) (m O P V : Nat) (ns : Nat → Int) (sf ef : Nat → Nat) (E F0 s0 e0 h0 : Nat) (M : mM) : Nat → Nat → Nat → Nat → Nat → (Nat → Nat) → Nat → Prop
  | 0, T, F, s, e, _, h => T = 0 ∧ F = F0 ∧ s = s0 ∧ e = e0 ∧ h = h0
  | c + 1, T, F, s, e, _, h => ∃ (T1 F1 s1 e1 : Nat) (H1 : Nat → Nat) (h1 pc1 : Nat), Cs M0 m O P V ns sf ef E F0 s0 e0 h0 M c T1 F1 s1 e1 H1 h1 ∧ Cod M0 O P V F1 ns s1 e1 H1 h1 ∧ (∀ y, y < F1 → ns y = 7 → ef y < s1) ∧ T1 + e1 ≤ E ∧ F1 + c ≤ F0 ∧ mI M (m + 8) c = (F : Int) ∧ F < F1 ∧ ns F = 7 ∧ (s = sf F ∧ e = ef F ∧ h = 1) ∧ mI M (m + 9) c = (pc1 : Int) ∧ s1 < pc1 ∧ pc1 ≤ e1 ∧ T + 1 = T1 + H1 pc1
theorem Cs.cg {s0 e0 h0 : Nat} : ∀ {c T F s e : Nat} {H : Nat → Nat} {h : Nat}, Cs M0 m O P V ns sf ef E F0 s0 e0 h0 M c T F s e H h → (∀ i, i < c → mI M' (m + 8) i = mI M (m + 8) i ∧ mI M' (m + 9) i = mI M (m + 9) i) → Cs M0 m O P V ns sf ef E F0 s0 e0 h0 M' c T F s e H h
  | 0, _, _, _, _, _, _, q, _ => q
  | c + 1, _, _, _, _, _, _, q, hh => by
    obtain ⟨T1, F1, s1, e1, H1, h1, pc1, q1, q2, q3, q4, q5, q6, q7, q8, q9, q10, q11⟩ := q
    exact ⟨T1, F1, s1, e1, H1, h1, pc1, q1.cg (fun i hi => hh i (by omega)), q2, q3, q4, q5, by rw [(hh c (by omega)).1]; exact q6, q7, q8, q9, by rw [(hh c (by omega)).2]; exact q10, q11⟩
/-- formulas that were met have values -/
def MT (M : mM) (m : Nat) (X : Nat → Prop) : Prop := ∀ x, X x → mI M (m + 5) x ≤ mI M m 9 ∧ (mI M (m + 5) x = mI M m 9 → 1 ≤ mI M (m + 7) x ∧ mI M (m + 7) x < 1000000000)
theorem MT.mtb (h : MT M m X) (b : mtb m M M') (h9 : mI M' m 9 = mI M m 9) : MT M' m X := fun x hx => by
  rw [b (m + 5) (by omega) (by omega), b (m + 7) (by omega) (by omega), h9]
  exact h x hx
/-- what a run comes to -/
def rnQ (M0 : mM) (z m U Ab0 Be0 C0 : Nat) (X : Nat → Prop) (h0 : Nat) (r : Int) (M' : mM) : Prop := MT M' m X ∧ ((r = 0 ∧ mI M' m 1 ≠ 0 ∧ ∃ t c, MS M0 z m U Ab0 Be0 C0 M' t c) ∨ (r = 1 ∧ MS M0 z m U Ab0 Be0 C0 M' h0 0))
theorem MS.nine (h : MS M0 z m U Ab0 Be0 C0 M t c) : mI M m 9 = mI M0 m 9 := by
  obtain ⟨_, _, _, -, -, -, -, -, -, -, h9, -⟩ := h
  exact h9
/-- the program and the machine lie apart -/
def Mpr (M0 : mM) (z m p O P Ab0 Be0 : Nat) : Prop := (p + 15 < m ∨ m + 9 < p) ∧ (O ≠ Ab0 ∧ O ≠ Be0 ∧ P ≠ Ab0 ∧ P ≠ Be0) ∧ m + 9 < z ∧ p + 16 ≤ z ∧ (Ab0 = m + 3 ∨ z ≤ Ab0) ∧ (Be0 = m + 4 ∨ z ≤ Be0)
/-- at any time: the program is as it was -/
theorem MS.prog (h : MS M0 z m U Ab0 Be0 C0 M t c) (hp : PK M0 z p O P K) (h0 : mR M0 m 0 = p) (ha : Mpr M0 z m p O P Ab0 Be0) : PK M z p O P K ∧ mR M m 0 = p ∧ mI M O = mI M0 O ∧ mI M P = mI M0 P ∧ ∀ i, i ≤ 15 → mI M (p + i) = mI M0 (p + i) := by
  obtain ⟨Ab, Be, C, ok, hk, hf, hab, hr, -, -, hm⟩ := h
  obtain ⟨a1, ⟨a2, a3, a4, a5⟩, a6, a7, a8, a9⟩ := ha
  obtain ⟨-, -, -, sp, ⟨z0, z1, z2⟩, -, -⟩ := id hp
  refine ⟨hp.fa hf (show ¬ p = m by first | rfl | omega), by rw [hm.2.2]; exact h0, (hf.2 O z1).2.2.2.2 ?_, (hf.2 P z2).2.2.2.2 ?_, fun i hi => (hf.2 (p + i) (by omega)).2.2.2.2 ?_⟩
  · exact fun q => t6p a1 sp.1 a6 a2 a3 q
  · exact fun q => t6q a1 sp.2.1 a6 a4 a5 q
  · exact fun q => t6r a1 a7 a8 a9 hi q
end MAE
end
section
/-! The class's machine: run, the loop. -/
section MAF
variable {G : mG} {d z m U Ab Be C Ab0 Be0 C0 t s c p O P K L V F E F0 s0 e0 h0 : Nat} {M0 M M' M1 M2 : mM} {S R X : Nat → Prop} {ns : Nat → Int} {sf ef : Nat → Nat} {H : Nat → Nat}
theorem stO.all {pc : Nat} {o x : Int} (h : stO V F ns H pc o x) : o ≠ 0 ∧ (o = 3 → H (pc + 1) = H pc + 1) ∧ ((o = 4 ∨ o = 7) → 0 ≤ x ∧ x < F ∧ ns x.toNat = o ∧ H (pc + 1) = H pc + 1) ∧ (o = 5 → 0 ≤ x ∧ x < V ∧ H (pc + 1) = H pc + 1) ∧ ((o = 30 ∨ o = 31 ∨ o = 33) → H (pc + 1) + 1 = H pc) ∧ (o = 42 → 1 ≤ H pc) ∧ ((o = 40 ∨ o = 41) → 1 ≤ H pc ∧ H (pc + 1) = H pc) ∧ ((o = 15 ∨ o = 16 ∨ (19 ≤ o ∧ o ≤ 29)) → 2 ≤ H pc ∧ H (pc + 1) + 1 = H pc) ∧ (o = 43 → 0 ≤ x ∧ x ≤ 1000000 ∧ x % 16 < V ∧ H (pc + 1) + 1 = H pc) ∧ ((o = 3 ∨ o = 4 ∨ o = 5 ∨ o = 7 ∨ o = 30 ∨ o = 31 ∨ o = 33 ∨ o = 42) ∨ (o = 40 ∨ o = 41) ∨ (o = 15 ∨ o = 16 ∨ (19 ≤ o ∧ o ≤ 29)) ∨ o = 43) := by
  unfold stO at h
  rcases h with q | q | q | q | q | q | q | q
  all_goals refine ⟨by omega, by omega, by omega, by omega, by omega, by omega, by omega, by omega, by omega, by omega⟩
end MAF
end
section
/-! The class's reader of texts: places, tables, frames. -/
theorem t6a {q p O P x : Nat} (u : ¬ (q ≤ x ∧ x ≤ q + 22)) (v : ¬ ((q + 1 ≤ x ∧ x ≤ q + 1 + 9) ∨ (p ≤ x ∧ x ≤ p + 15) ∨ x = O ∨ x = P)) (y : (q ≤ x ∧ x ≤ q + 10) ∨ x = q + 21 ∨ x = q + 22 ∨ x = p ∨ (p + 3 ≤ x ∧ x ≤ p + 15) ∨ x = O ∨ x = P) : False := by
  rcases y with y | y | y | y | y | y | y
  · exact u ⟨y.1, Nat.le_trans y.2 (by omega)⟩
  · exact u (by rw [y]; exact ⟨by omega, by omega⟩)
  · exact u (by rw [y]; exact ⟨by omega, by omega⟩)
  · exact v (Or.inr (Or.inl (by rw [y]; exact ⟨by omega, by omega⟩)))
  · exact v (Or.inr (Or.inl ⟨Nat.le_trans (by omega) y.1, y.2⟩))
  · exact v (Or.inr (Or.inr (Or.inl y)))
  · exact v (Or.inr (Or.inr (Or.inr y)))
theorem t6b {q p O P : Nat} (s : q + 22 < p ∨ p + 15 < q) (o : O < q ∨ q + 22 < O) (o' : P < q ∨ q + 22 < P) (y : (q ≤ q + 11 ∧ q + 11 ≤ q + 10) ∨ q + 11 = q + 21 ∨ q + 11 = q + 22 ∨ q + 11 = p ∨ (p + 3 ≤ q + 11 ∧ q + 11 ≤ p + 15) ∨ q + 11 = O ∨ q + 11 = P) : False := by
  rcases y with y | y | y | y | y | y | y
  · omega
  · omega
  · omega
  · clear o o'; omega
  · clear o o'; omega
  · clear s o'; omega
  · clear s o; omega
theorem t6c {q p O P b j : Nat} (hb : (b = q ∨ b = q + 21 ∨ b = q + 22 ∨ (b = q + 1 ∧ (j = 2 ∨ j = 5 ∨ j = 6)) ∨ (b = p ∧ j = 2))) : (q ≤ b ∧ b ≤ q + 10) ∨ b = q + 21 ∨ b = q + 22 ∨ b = p ∨ (p + 3 ≤ b ∧ b ≤ p + 15) ∨ b = O ∨ b = P := by
  rcases hb with u | u | u | u | u
  · exact Or.inl ⟨by omega, by omega⟩
  · exact Or.inr (Or.inl u)
  · exact Or.inr (Or.inr (Or.inl u))
  · exact Or.inl ⟨by omega, by omega⟩
  · exact Or.inr (Or.inr (Or.inr (Or.inl u.1)))
theorem t6d {q p b i j : Nat} (hb : (b = q ∨ b = q + 21 ∨ b = q + 22 ∨ (b = q + 1 ∧ (j = 2 ∨ j = 5 ∨ j = 6)) ∨ (b = p ∧ j = 2))) (s : q + 22 < p ∨ p + 15 < q) (i2 : i ≠ 2) (i5 : i ≠ 5) (i6 : i ≠ 6) : ¬ (q + 1 = b ∧ i = j) := fun e => by
  obtain ⟨e, e'⟩ := e
  subst e'
  rcases hb with u | u | u | u | u
  · omega
  · omega
  · omega
  · rcases u.2 with v | v | v
    · exact i2 v
    · exact i5 v
    · exact i6 v
  · exact i2 u.2
theorem t6e {q p b i j x : Nat} (hb : (b = q ∨ b = q + 21 ∨ b = q + 22 ∨ (b = q + 1 ∧ (j = 2 ∨ j = 5 ∨ j = 6)) ∨ (b = p ∧ j = 2))) (s : q + 22 < p ∨ p + 15 < q) (i6 : 6 ≤ i) (i9 : i ≤ 9) : ¬ (q + 1 + i = b ∧ x = j) := fun e => by
  obtain ⟨e, -⟩ := e
  rcases hb with u | u | u | u | u
  · omega
  · omega
  · omega
  · have := u.1; omega
  · have := u.1; omega
theorem t6f {q p b i j : Nat} (hb : (b = q ∨ b = q + 21 ∨ b = q + 22 ∨ (b = q + 1 ∧ (j = 2 ∨ j = 5 ∨ j = 6)) ∨ (b = p ∧ j = 2))) (s : q + 22 < p ∨ p + 15 < q) (i2 : i ≠ 2) : ¬ (p = b ∧ i = j) := fun e => by
  obtain ⟨e, e'⟩ := e
  subst e'
  rcases hb with u | u | u | u | u
  · omega
  · omega
  · omega
  · have := u.1; omega
  · exact i2 u.2
theorem t6g {q p b i j x : Nat} (hb : (b = q ∨ b = q + 21 ∨ b = q + 22 ∨ (b = q + 1 ∧ (j = 2 ∨ j = 5 ∨ j = 6)) ∨ (b = p ∧ j = 2))) (s : q + 22 < p ∨ p + 15 < q) (i3 : 3 ≤ i) (i15 : i ≤ 15) : ¬ (p + i = b ∧ x = j) := fun e => by
  obtain ⟨e, -⟩ := e
  rcases hb with u | u | u | u | u
  · omega
  · omega
  · omega
  · have := u.1; omega
  · have := u.1; omega
theorem t6h {q p O b i j : Nat} (hb : (b = q ∨ b = q + 21 ∨ b = q + 22 ∨ (b = q + 1 ∧ (j = 2 ∨ j = 5 ∨ j = 6)) ∨ (b = p ∧ j = 2))) (o : O < q ∨ q + 22 < O) (o2 : O ≠ p) : ¬ (O = b ∧ i = j) := fun e => by
  obtain ⟨e, -⟩ := e
  rcases hb with u | u | u | u | u
  · omega
  · omega
  · omega
  · have := u.1; omega
  · exact o2 (e.trans u.1)
theorem t6i {O p k : Nat} (h : O < p ∨ O = p + k ∨ p + 15 < O) (hk : 0 < k) : O ≠ p := by omega
theorem t6j {q p b i j : Nat} (hb : (b = q ∨ b = q + 21 ∨ b = q + 22 ∨ (b = q + 1 ∧ (j = 2 ∨ j = 5 ∨ j = 6)) ∨ (b = p ∧ j = 2))) (s : q + 22 < p ∨ p + 15 < q) : ¬ (q + 6 = b ∧ i = j) := fun e => by
  obtain ⟨e, -⟩ := e
  rcases hb with u | u | u | u | u
  · omega
  · omega
  · omega
  · have := u.1; omega
  · have := u.1; omega
theorem t6k {q p O P b : Nat} (y : (q + 1 ≤ b ∧ b ≤ q + 1 + 9) ∨ b = p ∨ b = O ∨ b = P) : (q ≤ b ∧ b ≤ q + 10) ∨ b = q + 21 ∨ b = q + 22 ∨ b = p ∨ (p + 3 ≤ b ∧ b ≤ p + 15) ∨ b = O ∨ b = P := by
  rcases y with y | y | y | y
  · exact Or.inl ⟨by omega, by omega⟩
  · exact Or.inr (Or.inr (Or.inr (Or.inl y)))
  · exact Or.inr (Or.inr (Or.inr (Or.inr (Or.inr (Or.inl y)))))
  · exact Or.inr (Or.inr (Or.inr (Or.inr (Or.inr (Or.inr y)))))
theorem t6l {q p O P i : Nat} (s : q + 22 < p ∨ p + 15 < q) (o : O < p ∨ O = p + 1 ∨ p + 15 < O) (o' : P < p ∨ P = p + 2 ∨ p + 15 < P) (i3 : 3 ≤ i) (i15 : i ≤ 15) (y : (q + 1 ≤ p + i ∧ p + i ≤ q + 1 + 9) ∨ p + i = p ∨ p + i = O ∨ p + i = P) : False := by
  rcases y with y | y | y | y
  · clear o o'; omega
  · omega
  · clear s o'; omega
  · clear s o; omega
theorem t6n {q p O P x : Nat} (s : q + 22 < p ∨ p + 15 < q) (o : O < q ∨ q + 22 < O) (o' : P < q ∨ q + 22 < P) (h1 : q ≤ x) (h2 : x ≤ q + 22) : x ≠ p ∧ x ≠ O ∧ x ≠ P := by
  refine ⟨?_, ?_, ?_⟩
  · clear o o'; omega
  · clear s o'; omega
  · clear s o; omega
theorem t6o {p O P i : Nat} (o : O < p ∨ O = p + 1 ∨ p + 15 < O) (o' : P < p ∨ P = p + 2 ∨ p + 15 < P) (i3 : 3 ≤ i) (i15 : i ≤ 15) : p + i ≠ p ∧ p + i ≠ O ∧ p + i ≠ P := by
  refine ⟨?_, ?_, ?_⟩
  · omega
  · clear o'; omega
  · clear o; omega
section TRA
variable {G : mG} {d z q w T A B D N C n p O P K Ab Be Cm V F c s L L' cnt Bn a : Nat} {M0 M M' M1 M2 : mM} {ns ns' : Nat → Int} {sf ef sf' ef' : Nat → Nat} {H : Nat → Nat} {S R : Nat → Prop}
theorem CO.wide {V' F' : Nat} {pd : Nat → Prop} {e : Nat} (h : CO M O P V F ns H s e pd) (hV : V ≤ V') (hF : F ≤ F') (hn : ∀ x, x < F → ns' x = ns x) : CO M O P V' F' ns' H s e pd := fun pc h0 h1 => by
  obtain ⟨a1, a2, a3⟩ := h pc h0 h1
  refine ⟨?_, a2, a3⟩
  clear a2 h
  unfold stO at a1 ⊢
  rcases a1 with u | u | u | u | u | u | u | u
  · exact Or.inl u
  · obtain ⟨u1, u2, u3, u4, u5⟩ := u
    exact Or.inr (Or.inl ⟨u1, u2, by omega, by rw [hn _ (by omega)]; exact u4, u5⟩)
  · obtain ⟨u1, u2, u3, u4⟩ := u
    exact Or.inr (Or.inr (Or.inl ⟨u1, u2, by omega, u4⟩))
  · exact Or.inr (Or.inr (Or.inr (Or.inl u)))
  · exact Or.inr (Or.inr (Or.inr (Or.inr (Or.inl u))))
  · exact Or.inr (Or.inr (Or.inr (Or.inr (Or.inr (Or.inl u)))))
  · exact Or.inr (Or.inr (Or.inr (Or.inr (Or.inr (Or.inr (Or.inl u))))))
  · obtain ⟨u1, u2, u3, u4, u5⟩ := u
    exact Or.inr (Or.inr (Or.inr (Or.inr (Or.inr (Or.inr (Or.inr ⟨u1, u2, u3, by omega, u5⟩))))))
theorem Cod.wide {V' F' e h : Nat} (hc : Cod M O P V F ns s e H h) (hV : V ≤ V') (hF : F ≤ F') (hn : ∀ x, x < F → ns' x = ns x) : Cod M O P V' F' ns' s e H h := ⟨hc.1.wide hV hF hn, hc.2⟩
/-- the code is the same -/
theorem Cod.cg {e h : Nat} (hc : Cod M O P V F ns s e H h) (hO : ∀ i, i ≤ e → mI M' O i = mI M O i) (hP : ∀ i, i ≤ e → mI M' P i = mI M P i) : Cod M' O P V F ns s e H h := by
  obtain ⟨c1, c2, c3, c4, c5, c6⟩ := hc
  refine ⟨fun pc h0 h1 => ?_, c2, c3, c4, by rw [hO e (Nat.le_refl _)]; exact c5, c6⟩
  rw [hO pc (by omega), hP pc (by omega)]
  exact c1 pc h0 h1
/-- a piece of code at s -/
def PC (M : mM) (O P V F : Nat) (ns : Nat → Int) (ef : Nat → Nat) (L s h : Nat) : Prop := ∃ e H Ft, Cod M O P V Ft ns s e H h ∧ e < L ∧ Ft ≤ F ∧ ∀ y, y < Ft → ns y = 7 → ef y < s
theorem PC.wide {V' F' h : Nat} (hc : PC M O P V F ns ef L s h) (hV : V ≤ V') (hF : F ≤ F') (hL : L ≤ L') (hn : ∀ x, x < F → ns' x = ns x ∧ ef' x = ef x) : PC M O P V' F' ns' ef' L' s h := by
  obtain ⟨e, H, Ft, c1, c2, c3, c4⟩ := hc
  refine ⟨e, H, Ft, c1.wide hV (Nat.le_refl _) (fun x hx => (hn x (by omega)).1), by omega, by omega, fun y hy h7 => ?_⟩
  rw [(hn y (by omega)).2]
  exact c4 y hy (by rw [← (hn y (by omega)).1]; exact h7)
theorem PC.cg {h : Nat} (hc : PC M O P V F ns ef L s h) (hO : ∀ i, i < L → mI M' O i = mI M O i) (hP : ∀ i, i < L → mI M' P i = mI M P i) : PC M' O P V F ns ef L s h := by
  obtain ⟨e, H, Ft, c1, c2, c3, c4⟩ := hc
  exact ⟨e, H, Ft, c1.cg (fun i hi => hO i (by omega)) (fun i hi => hP i (by omega)), c2, c3, c4⟩
theorem FO.cg (h : FO M p O P V ns sf ef L F) (hO : ∀ i, i < L → mI M' O i = mI M O i) (hP : ∀ i, i < L → mI M' P i = mI M P i) (h7 : ∀ i, i < F → mI M' (p + 7) i = mI M (p + 7) i) (h8 : ∀ i, i < F → mI M' (p + 8) i = mI M (p + 8) i) : FO M' p O P V ns sf ef L F := fun x hx => by
  obtain ⟨a1, a2⟩ := h x hx
  rw [h7 x hx, h8 x hx]
  refine ⟨a1, fun y => ?_⟩
  obtain ⟨b1, ⟨Hx, b2⟩, b3, b4⟩ := a2 y
  exact ⟨b1, ⟨Hx, b2.cg (fun i hi => hO i (by omega)) (fun i hi => hP i (by omega))⟩, b3, b4⟩
theorem FO.wide {V' : Nat} (h : FO M p O P V ns sf ef L F) (hV : V ≤ V') (hL : L ≤ L') : FO M p O P V' ns sf ef L' F := fun x hx => by
  obtain ⟨a1, a2⟩ := h x hx
  refine ⟨a1, fun y => ?_⟩
  obtain ⟨b1, ⟨Hx, b2⟩, b3, b4⟩ := a2 y
  exact ⟨b1, ⟨Hx, b2.wide hV (Nat.le_refl _) (fun _ _ => rfl)⟩, by omega, b4⟩
/-- the program's tables: cnt commands, Bn branches -/
def PG (M : mM) (p O P V F : Nat) (ns : Nat → Int) (sf ef : Nat → Nat) (L cnt Bn : Nat) : Prop := FO M p O P V ns sf ef L F ∧ (mI M p 11 = -1 ∨ ∃ s : Nat, mI M p 11 = s ∧ PC M O P V F ns ef L s 1) ∧ (∀ j, j < cnt → ∃ s : Nat, mI M (p + 11) j = s ∧ PC M O P V F ns ef L s 1) ∧ mI M (p + 12) 0 = 0 ∧ (∀ j, j < cnt → ∃ u v : Nat, mI M (p + 12) j = u ∧ mI M (p + 12) (j + 1) = v ∧ u ≤ v ∧ v ≤ u + 8) ∧ (∃ u : Nat, mI M (p + 12) cnt = u ∧ u ≤ Bn ∧ u ≤ 8 * cnt) ∧ (∀ b, b < Bn → ∃ s1 s2 : Nat, mI M (p + 14) b = s1 ∧ PC M O P V F ns ef L s1 1 ∧ mI M (p + 15) b = s2 ∧ PC M O P V F ns ef L s2 0)
/-- the cells that reading an item may change -/
def txS (q p O P : Nat) : Nat → Prop := fun x => (q ≤ x ∧ x ≤ q + 10) ∨ x = q + 21 ∨ x = q + 22 ∨ x = p ∨ (p + 3 ≤ x ∧ x ≤ p + 15) ∨ x = O ∨ x = P
/-- the reader of texts: places; it lies apart from the words and the program -/
def TP (M : mM) (z q w T A B D N C n p O P K Ab Be Cm : Nat) : Prop := RB M z (q + 1) w T A B D N C n p O P K ∧ (mK M q = 3 ∧ mR M q 0 = q + 1 ∧ mR M q 1 = q + 11 ∧ mR M q 2 = p ∧ mR M q 5 = q + 21 ∧ mR M q 6 = q + 22) ∧ (mK M (q + 21) = 30 ∧ mK M (q + 22) = 30 ∧ mN M (q + 21) = 3 ∧ mN M (q + 22) = 3) ∧ MK M z (q + 11) (q + 12) Ab Be Cm ∧ mR M (q + 11) 0 = p ∧ (q + 23 ≤ z ∧ (q + 22 < p ∨ p + 15 < q) ∧ (∀ x, (x = w ∨ x = T ∨ x = A ∨ x = B ∨ x = D) → ¬ (q ≤ x ∧ x ≤ q + 22) ∧ x ≠ Ab ∧ x ≠ Be ∧ x < mZ M)) ∧ (O ≠ Ab ∧ O ≠ Be ∧ P ≠ Ab ∧ P ≠ Be)
theorem TP.apart (h : TP M z q w T A B D N C n p O P K Ab Be Cm) : Mpr M z (q + 11) p O P Ab Be ∧ (O < q ∨ q + 22 < O) ∧ (P < q ∨ q + 22 < P) ∧ (O < p ∨ O = p + 1 ∨ p + 15 < O) ∧ (P < p ∨ P = p + 2 ∨ p + 15 < P) ∧ O ≠ P := by
  obtain ⟨⟨-, -, -, -, ⟨-, -, -, ⟨a1, a2, a3, a4⟩, -⟩, -⟩, -, -, hk, -, ⟨b1, b2, -⟩, b3⟩ := h
  obtain ⟨sA, sB, sne, sz⟩ := hk.2.2.2.2.2.1
  exact ⟨⟨by omega, b3, by omega, by omega, sA, sB⟩, by omega, by omega, by omega, by omega, a3⟩
theorem TP.fi (h : TP M z q w T A B D N C n p O P K Ab Be Cm) (ok : mOk M') (f : FI (txS q p O P) M M') : TP M' z q w T A B D N C n p O P K Ab Be Cm := by
  have ap := h.apart
  obtain ⟨hb, h2, h3, hk, h4, ⟨s1, s2, s3⟩, h5⟩ := h
  obtain ⟨b1, b2, b3, b4, b5, b6, b7⟩ := hb
  obtain ⟨f1, f2, f3, f4, f5, f6, f7⟩ := id f
  refine ⟨⟨ok, b2.fi f, by rw [f3]; exact b3, b4.fi f (fun x hx y => ?_), b5.fi f, b6, b7⟩, by rw [f1, f3]; exact h2, by rw [f1, f2]; exact h3, hk.fi f ?_, by rw [f3]; exact h4, ⟨s1, s2, by rw [f5]; exact s3⟩, h5⟩
  · exact t6a (s3 x hx).1 (b6.2.2 x hx) y
  · rw [f7 (q + 11) (fun y => t6b s2 ap.2.1 ap.2.2.1 y)]
theorem TP.words (h : TP M z q w T A B D N C n p O P K Ab Be Cm) (f : FI (txS q p O P) M M') : mI M' A = mI M A ∧ mI M' B = mI M B ∧ mI M' D = mI M D ∧ mI M' w = mI M w := by
  have ap := h.apart
  obtain ⟨⟨-, -, -, -, -, b6, -⟩, -, -, -, -, ⟨-, -, s3⟩, -⟩ := h
  have no : ∀ x, (x = w ∨ x = T ∨ x = A ∨ x = B ∨ x = D) → ¬ txS q p O P x := fun x hx y => t6a (s3 x hx).1 (b6.2.2 x hx) y
  exact ⟨f.2.2.2.2.2.2 A (no A (Or.inr (Or.inr (Or.inl rfl)))), f.2.2.2.2.2.2 B (no B (Or.inr (Or.inr (Or.inr (Or.inl rfl))))), f.2.2.2.2.2.2 D (no D (Or.inr (Or.inr (Or.inr (Or.inr rfl))))), f.2.2.2.2.2.2 w (no w (Or.inl rfl))⟩
/-- names, vars, kinds -/
def TC (M : mM) (q A n p V F : Nat) (ns : Nat → Int) (c : Nat) : Prop := (mI M p 3 = V ∧ V ≤ 12) ∧ (mI M p 7 = F ∧ F ≤ 60) ∧ TN M (q + 1) A n V F ns c ∧ (∀ j, mI M (q + 6) j = 0 ∨ mI M (q + 6) j = 1)
/-- the tables, while no fault is noted -/
def PX (M : mM) (q p O P V F : Nat) (ns : Nat → Int) (sf ef : Nat → Nat) (L cnt : Nat) : Prop := (mI M p 12 = cnt ∧ cnt ≤ 60) ∧ (mI M (q + 1) 3 = 0 → ∃ u : Nat, mI M (p + 12) cnt = u ∧ PG M p O P V F ns sf ef L cnt u)
/-- what reading may change, but for the commands -/
def txE (M : mM) (q p O P s : Nat) (M' : mM) : Prop := (∀ i, i ≠ 2 → i ≠ 3 → i ≠ 4 → i ≠ 5 → i ≠ 6 → i ≠ 7 → i ≠ 12 → i ≠ 14 → mI M' (q + 1) i = mI M (q + 1) i) ∧ (mI M (q + 1) 3 ≠ 0 → mI M' (q + 1) 3 ≠ 0) ∧ (∀ i, 6 ≤ i → i ≤ 9 → mI M' (q + 1 + i) = mI M (q + 1 + i)) ∧ (∀ i, i ≠ 2 → mI M' p i = mI M p i) ∧ (∀ i, 3 ≤ i → i ≤ 15 → mI M' (p + i) = mI M (p + i)) ∧ (∀ i, i < s → mI M' O i = mI M O i ∧ mI M' P i = mI M P i)
def txF (M : mM) (q p O P s : Nat) (M' : mM) : Prop := FI (txS q p O P) M M' ∧ txE M q p O P s M'
theorem txF.refl : txF M q p O P s M := ⟨FI.refl, fun _ _ _ _ _ _ _ _ _ => rfl, fun h => h, fun _ _ _ => rfl, fun _ _ => rfl, fun _ _ _ => rfl, fun _ _ => ⟨rfl, rfl⟩⟩
theorem txF.trans (f : txF M q p O P s M1) (g : txF M1 q p O P s M2) : txF M q p O P s M2 := by
  obtain ⟨a1, a2, a3, a4, a5, a6, a7⟩ := f
  obtain ⟨b1, b2, b3, b4, b5, b6, b7⟩ := g
  exact ⟨a1.trans b1, fun i i2 i3 i4 i5 i6 i7 i12 i14 => by rw [b2 i i2 i3 i4 i5 i6 i7 i12 i14, a2 i i2 i3 i4 i5 i6 i7 i12 i14], fun h => b3 (a3 h), fun i i6 i9 => by rw [b4 i i6 i9, a4 i i6 i9], fun i i2 => by rw [b5 i i2, a5 i i2], fun i i9 i15 => by rw [b6 i i9 i15, a6 i i9 i15], fun i hi => ⟨by rw [(b7 i hi).1, (a7 i hi).1], by rw [(b7 i hi).2, (a7 i hi).2]⟩⟩
theorem txF.less {s' : Nat} (f : txF M q p O P s M1) (h : s' ≤ s) : txF M q p O P s' M1 := ⟨f.1, f.2.1, f.2.2.1, f.2.2.2.1, f.2.2.2.2.1, f.2.2.2.2.2.1, fun i hi => f.2.2.2.2.2.2 i (by omega)⟩
theorem TC.tx (h : TC M q A n p V F ns c) (hA : mI M' A = mI M A) (f : txE M q p O P s M') (ht : ∀ j, mI M' (q + 6) j = 0 ∨ mI M' (q + 6) j = 1) : TC M' q A n p V F ns c := by
  obtain ⟨a1, a2, a3, -⟩ := h
  obtain ⟨f2, -, f4, f5, -⟩ := f
  refine ⟨by rw [f5 3 (by decide)]; exact a1, by rw [f5 7 (by decide)]; exact a2, ?_, ht⟩
  unfold TN at a3 ⊢
  rw [hA, f2 19 (by decide) (by decide) (by decide) (by decide) (by decide) (by decide) (by decide) (by decide), f4 6 (by omega) (by omega), f4 7 (by omega) (by omega), f4 8 (by omega) (by omega), f4 9 (by omega) (by omega)]
  exact a3
theorem PX.tx (h : PX M q p O P V F ns sf ef L cnt) (f : txE M q p O P L M') : PX M' q p O P V F ns sf ef L cnt := by
  obtain ⟨a1, a2⟩ := h
  obtain ⟨f2, f3, f4, f5, f6, f7⟩ := f
  refine ⟨by rw [f5 12 (by decide)]; exact a1, fun h0 => ?_⟩
  obtain ⟨u, e, g1, g2, g3, g4, g5, g6, g7⟩ := a2 (Classical.byContradiction (fun y => f3 y h0))
  have cg : ∀ {s h : Nat}, PC M O P V F ns ef L s h → PC M' O P V F ns ef L s h := fun hc => hc.cg (fun i hi => (f7 i hi).1) (fun i hi => (f7 i hi).2)
  refine ⟨u, by rw [f6 12 (by omega) (by omega)]; exact e, g1.cg (fun i hi => (f7 i hi).1) (fun i hi => (f7 i hi).2) (fun i _ => by rw [f6 7 (by omega) (by omega)]) (fun i _ => by rw [f6 8 (by omega) (by omega)]), ?_, fun j hj => ?_, by rw [f6 12 (by omega) (by omega)]; exact g4, by rw [f6 12 (by omega) (by omega)]; exact g5, by rw [f6 12 (by omega) (by omega)]; exact g6, fun b hb => ?_⟩
  · rw [f5 11 (by decide)]
    exact g2.imp (fun y => y) (fun ⟨s, y1, y2⟩ => ⟨s, y1, cg y2⟩)
  · obtain ⟨s, y1, y2⟩ := g3 j hj
    exact ⟨s, by rw [f6 11 (by omega) (by omega)]; exact y1, cg y2⟩
  · obtain ⟨s1, s2, y1, y2, y3, y4⟩ := g7 b hb
    exact ⟨s1, s2, by rw [f6 14 (by omega) (by omega)]; exact y1, cg y2, by rw [f6 15 (by omega) (by omega)]; exact y3, cg y4⟩
/-- the reader of texts between two steps -/
def TX (M : mM) (z q w T A B D N C n p O P K Ab Be Cm V F : Nat) (ns : Nat → Int) (sf ef : Nat → Nat) (c cnt L : Nat) : Prop := TP M z q w T A B D N C n p O P K Ab Be Cm ∧ TC M q A n p V F ns c ∧ PX M q p O P V F ns sf ef L cnt
theorem TX.tx (h : TX M z q w T A B D N C n p O P K Ab Be Cm V F ns sf ef c cnt L) (ok : mOk M') (f : txF M q p O P L M') (ht : ∀ j, mI M' (q + 6) j = 0 ∨ mI M' (q + 6) j = 1) : TX M' z q w T A B D N C n p O P K Ab Be Cm V F ns sf ef c cnt L := by
  obtain ⟨h1, h2, h3⟩ := h
  exact ⟨h1.fi ok f.1, h2.tx (h1.words f.1).1 f.2 ht, h3.tx f.2⟩
end TRA
end
section
/-! The class's reader of texts: steps; names, rules of items. -/
section TRB
variable {G : mG} {d z q w T A B D N C n p O P K Ab Be Cm V F c s L L' cnt Bn a d0 V1 F1 : Nat} {M0 M M' M1 M2 : mM} {ns ns' ns1 : Nat → Int} {sf ef sf' ef' : Nat → Nat} {H : Nat → Nat} {S R : Nat → Prop}
theorem tx_ui {b j : Nat} {v : Int} (h : TX M z q w T A B D N C n p O P K Ab Be Cm V F ns sf ef c cnt L) (hv : i32 v) (e : M' = mUI M b j v) (hb : b = q ∨ b = q + 21 ∨ b = q + 22 ∨ (b = q + 1 ∧ (j = 2 ∨ j = 5 ∨ j = 6)) ∨ (b = p ∧ j = 2)) : TX M' z q w T A B D N C n p O P K Ab Be Cm V F ns sf ef c cnt L ∧ txF M q p O P L M' ∧ (∀ x i, mI M' x i = if x = b ∧ i = j then v else mI M x i) := by
  have ap := h.1.apart
  have qp := h.1.2.2.2.2.2.1.2.1
  have ok := h.1.1.1
  have g : ∀ x i, mI M' x i = if x = b ∧ i = j then v else mI M x i := fun x i => mI_ui x i e
  have f : FI (txS q p O P) M M' := by
    rw [e]
    refine FI.ui ?_
    exact t6c hb
  have o : mOk M' := by rw [e]; exact mOk_UI ok hv
  have ff : txF M q p O P L M' := by
    refine ⟨f, fun i i2 i3 i4 i5 i6 i7 i12 i14 => by rw [g, if_neg (t6d hb qp i2 i5 i6)], fun y => by rw [g, if_neg (t6d hb qp (by decide) (by decide) (by decide))]; exact y, fun i i6 i9 => ?_, fun i i2 => by rw [g, if_neg (t6f hb qp i2)], fun i i9 i15 => ?_, fun i hi => ⟨by rw [g, if_neg (t6h hb ap.2.1 (t6i ap.2.2.2.1 (by decide)))], by rw [g, if_neg (t6h hb ap.2.2.1 (t6i ap.2.2.2.2.1 (by decide)))]⟩⟩
    · funext x
      rw [g, if_neg (t6e hb qp i6 i9)]
    · funext x
      rw [g, if_neg (t6g hb qp i9 i15)]
  refine ⟨h.tx o ff (fun x => ?_), ff, g⟩
  rw [g, if_neg (t6j hb qp)]
  exact h.2.1.2.2.2 x
theorem rr_tx (h : TP M z q w T A B D N C n p O P K Ab Be Cm) (f : rrF M (q + 1) p O P s M') : txF M q p O P s M' := by
  have ap := h.apart
  have qp := h.2.2.2.2.2.1.2.1
  obtain ⟨f1, f2, f3, f4, f5, f6⟩ := f
  refine ⟨f1.mono (fun b y => ?_), fun i i2 i3 i4 i5 _ i7 i12 i14 => f2 i i2 i3 i4 i5 i7 i12 i14, fun y => by rw [f3 y]; exact y, f4, f5, fun i i9 i15 => f1.2.2.2.2.2.2 _ (fun y => ?_), f6⟩
  · exact t6k y
  · exact t6l qp ap.2.2.2.1 ap.2.2.2.2.1 i9 i15 y
/-- an order is added -/
theorem s_tx_add {o x : Int} (io : i32 o) (ix : i32 x) (h : TX M z q w T A B D N C n p O P K Ab Be Cm V F ns sf ef c cnt L) (hs : mI M p 2 = s) (hL : L ≤ s) (hn : s ≤ n) : Ci G y_Pr_add d [vr p, vi o, vi x] M (fun v M' => i32 v ∧ mOk M' ∧ TX M' z q w T A B D N C n p O P K Ab Be Cm V F ns sf ef c cnt L ∧ txF M q p O P s M' ∧ mI M' p 2 = ((s + 1 : Nat) : Int) ∧ (∀ i, mI M' O i = if i = s then o else mI M O i) ∧ (∀ i, mI M' P i = if i = s then x else mI M P i) ∧ (∀ b, b ≠ p → b ≠ O → b ≠ P → mI M' b = mI M b)) := by
  have ap := h.1.apart
  have qp := h.1.2.2.2.2.2.1.2.1
  have hK := h.1.1.2.2.2.2.2.2
  have hN : n ≤ 16384 := by have := h.1.1.2.2.2.1.2.2.1; have := h.1.1.2.2.2.1.1.2.2.2.2.2.2.1; omega
  refine (s_Pr_add (n := s) io ix h.1.1.1 h.1.1.2.2.2.2.1 hs (by omega)).mono (fun v M' k => ?_)
  obtain ⟨k1, k2, k3, k4, k5, k6⟩ := k
  have nb : ∀ b, b ≠ p → b ≠ O → b ≠ P → mI M' b = mI M b := fun b b1 b2 b3 => k3.2.2.2.2.2.2 b (fun y => by
    rcases (show b = p ∨ b = O ∨ b = P from y) with y | y | y
    · exact b1 y
    · exact b2 y
    · exact b3 y)
  have nq : ∀ x, q ≤ x → x ≤ q + 22 → mI M' x = mI M x := fun x h1 h2 => by
    obtain ⟨u1, u2, u3⟩ := t6n qp ap.2.1 ap.2.2.1 h1 h2
    exact nb x u1 u2 u3
  have ff : txF M q p O P s M' := by
    refine ⟨k3.mono (fun b y => ?_), fun i _ _ _ _ _ _ _ _ => by rw [nq (q + 1) (by omega) (by omega)], fun y => by rw [nq (q + 1) (by omega) (by omega)]; exact y, fun i i6 i9 => nq _ (by omega) (by omega), fun i i2 => by rw [k4, if_neg i2], fun i i3 i15 => nb _ (t6o ap.2.2.2.1 ap.2.2.2.2.1 i3 i15).1 (t6o ap.2.2.2.1 ap.2.2.2.2.1 i3 i15).2.1 (t6o ap.2.2.2.1 ap.2.2.2.2.1 i3 i15).2.2, fun i hi => ⟨by rw [k5, if_neg (by omega)], by rw [k6, if_neg (by omega)]⟩⟩
    exact t6k (Or.inr y)
  exact ⟨by rw [k1]; exact ⟨by omega, by omega⟩, k2, h.tx k2 (ff.less hL) (fun j => by rw [nq _ (by omega) (by omega)]; exact h.2.1.2.2.2 j), ff, by rw [k4, if_pos rfl]; omega, k5, k6, nb⟩
/-- a rule is read: its code from s on -/
def ruQ (M : mM) (z q w T A B D N C n p O P K Ab Be Cm V F : Nat) (ns : Nat → Int) (sf ef : Nat → Nat) (c cnt L s V1 F1 : Nat) (ns1 : Nat → Int) (a : Nat) (x : Int) (M' : mM) : Prop := TX M' z q w T A B D N C n p O P K Ab Be Cm V F ns sf ef c cnt L ∧ txF M q p O P s M' ∧ (mI M' (q + 1) 6 = mI M (q + 1) 6 ∧ mI M' q = mI M q ∧ mI M' (q + 21) = mI M (q + 21) ∧ mI M' (q + 22) = mI M (q + 22)) ∧ ((x = 0 ∧ ∃ a' : Nat, mI M' (q + 1) 2 = a' ∧ a' ≤ n) ∨ (x = 1 ∧ ∃ e H a', CO M' O P V1 F1 ns1 H s e (fun _ => False) ∧ H s = 0 ∧ H e = 1 ∧ 1 + s ≤ e ∧ mI M' p 2 = ((e : Nat) : Int) ∧ mI M' (q + 1) 2 = ((a' : Nat) : Int) ∧ a ≤ a' ∧ a' ≤ n ∧ e ≤ a' ∧ mI M' (q + 1) 5 = mI M (q + 1) 5))
end TRB
end
end
section
section
/-! The class's reader of texts: names, and the rules of items. -/
section TRC
variable {G : mG} {d z q w T A B D N C n p O P K Ab Be Cm V F c s L L' cnt Bn a d0 V1 F1 : Nat} {M0 M M' M1 M2 : mM} {ns ns' ns1 : Nat → Int} {sf ef sf' ef' : Nat → Nat} {H : Nat → Nat} {S R : Nat → Prop}
def nmF (M0 : mM) (q : Nat) (M : mM) : Prop := (∀ i, i ≠ 2 → i ≠ 3 → i ≠ 4 → mI M (q + 1) i = mI M0 (q + 1) i) ∧ (∀ i, i ≠ 3 → mI M q i = mI M0 q i) ∧ (∀ b, b ≠ q → b ≠ q + 1 → mI M b = mI M0 b)
theorem nmF.refl : nmF M q M := ⟨fun _ _ _ _ => rfl, fun _ _ => rfl, fun _ _ _ => rfl⟩
theorem nmF.trans (f : nmF M0 q M1) (g : nmF M1 q M2) : nmF M0 q M2 := ⟨fun i i2 i3 i4 => by rw [g.1 i i2 i3 i4, f.1 i i2 i3 i4], fun i i3 => by rw [g.2.1 i i3, f.2.1 i i3], fun b b1 b2 => by rw [g.2.2 b b1 b2, f.2.2 b b1 b2]⟩
/-- what readName comes to -/
def rnmQ (M0 : mM) (z q w T A B D N C n p O P K Ab Be Cm V F : Nat) (ns : Nat → Int) (sf ef : Nat → Nat) (c cnt L a : Nat) (l1 : Int) (x : Int) (M' : mM) : Prop := TX M' z q w T A B D N C n p O P K Ab Be Cm V F ns sf ef c cnt L ∧ txF M0 q p O P L M' ∧ nmF M0 q M' ∧ (l1 ≠ 0 → mI M' (q + 1) 3 ≠ 0) ∧ ((x = 0 ∧ ∃ a' : Nat, mI M' (q + 1) 2 = a' ∧ a' ≤ n) ∨ (x = 1 ∧ mI M' (q + 1) 2 = ((a + 2 : Nat) : Int) ∧ a + 2 ≤ n ∧ mI M' q 3 = ((a + 1 : Nat) : Int) ∧ mI M' A (a + 1) = 2))
/-- a rule of an item -/
def irQ (M : mM) (z q w T A B D N C n p O P K Ab Be Cm V F : Nat) (ns : Nat → Int) (sf ef : Nat → Nat) (c cnt L s V1 F1 : Nat) (ns1 : Nat → Int) (a k : Nat) (x : Int) (M' : mM) : Prop := TX M' z q w T A B D N C n p O P K Ab Be Cm V F ns sf ef c cnt L ∧ txF M q p O P s M' ∧ (mI M' (q + 1) 6 = mI M (q + 1) 6 ∧ mI M' q = mI M q ∧ (∀ i, mI M' (q + 21) i = if i = k then (s : Int) else mI M (q + 21) i)) ∧ ((x = 0 ∧ ∃ a' : Nat, mI M' (q + 1) 2 = a' ∧ a' ≤ n) ∨ (x = 1 ∧ ∃ e H a', Cod M' O P V1 F1 ns1 s e H 1 ∧ mI M' p 2 = ((e + 1 : Nat) : Int) ∧ mI M' (q + 1) 2 = ((a' : Nat) : Int) ∧ a ≤ a' ∧ a' ≤ n ∧ e ≤ a' ∧ mI M' (q + 1) 5 = mI M (q + 1) 5))
end TRC
end
section
/-! The class's reader of texts: const, formula, target. -/
section TRD
variable {G : mG} {d z q w T A B D N C n p O P K Ab Be Cm V F c s L L' cnt Bn a d0 V1 F1 nw : Nat} {M0 M M' M1 M2 : mM} {ns ns' ns1 : Nat → Int} {sf ef sf' ef' : Nat → Nat} {H : Nat → Nat} {S R : Nat → Prop}
/-- it does not stand: the reader stays sound -/
def nstQ (z q w T A B D N C n p O P K Ab Be Cm V F : Nat) (ns : Nat → Int) (sf ef : Nat → Nat) (c cnt L : Nat) (M' : mM) : Prop := TX M' z q w T A B D N C n p O P K Ab Be Cm V F ns sf ef c cnt L ∧ ∃ a' : Nat, mI M' (q + 1) 2 = a' ∧ a' ≤ n
def vco (l1 : Int) (V : Nat) : Nat := if l1 = 4 then 0 else V
def nco (l1 : Int) (ns : Nat → Int) : Nat → Int := if l1 = 4 then nsc ns else ns
/-- a const or formula stands: its code from L to e -/
def ndQ (M0 : mM) (z q w T A B D N C n p O P K Ab Be Cm V F : Nat) (ns : Nat → Int) (sf ef : Nat → Nat) (c cnt L : Nat) (l1 : Int) (x : Int) (M' : mM) : Prop := FI (txS q p O P) M0 M' ∧ ((x = 0 ∧ nstQ z q w T A B D N C n p O P K Ab Be Cm V F ns sf ef c cnt L M') ∨ (x = 1 ∧ TX M' z q w T A B D N C n p O P K Ab Be Cm V F ns sf ef c cnt L ∧ (60 ≤ F → mI M' (q + 1) 3 ≠ 0) ∧ ∃ e a' nw : Nat, ∃ H : Nat → Nat, Cod M' O P (vco l1 V) F (nco l1 ns) L e H 1 ∧ mI M' p 2 = ((e + 1 : Nat) : Int) ∧ mI M' (q + 1) 2 = (a' : Int) ∧ a' ≤ n ∧ e + 1 ≤ a' ∧ mI M' (q + 1) 5 = 0 ∧ mI M' q 3 = (nw : Int) ∧ nw < n ∧ mI M' A nw = 2 ∧ (mI M' q 8 = 0 ∨ mI M' q 8 = 1) ∧ mI M' (q + 21) 0 = (L : Int)))
/-- what lies apart -/
theorem TP.ne (h : TP M z q w T A B D N C n p O P K Ab Be Cm) : (p ≠ q ∧ p ≠ q + 1 ∧ p ≠ q + 21 ∧ p ≠ q + 22) ∧ (O ≠ q ∧ O ≠ q + 1 ∧ O ≠ q + 21 ∧ O ≠ q + 22 ∧ O ≠ p) ∧ (P ≠ q ∧ P ≠ q + 1 ∧ P ≠ q + 21 ∧ P ≠ q + 22 ∧ P ≠ p) := by
  have ap := h.apart
  have qp := h.2.2.2.2.2.1.2.1
  clear h
  omega
theorem q_ne (q : Nat) : q ≠ q + 1 ∧ q + 1 ≠ q ∧ q + 21 ≠ q ∧ q + 21 ≠ q + 1 ∧ q ≠ q + 21 ∧ q + 1 ≠ q + 21 ∧ q + 22 ≠ q ∧ q + 22 ≠ q + 1 ∧ q + 6 ≠ q + 1 ∧ q + 6 ≠ q := by omega
theorem PG.longer (h : PG M p O P V F ns sf ef L cnt Bn) (hL : L ≤ L') : PG M p O P V F ns sf ef L' cnt Bn := by
  obtain ⟨g1, g2, g3, g4, g5, g6, g7⟩ := h
  have up : ∀ {s h : Nat}, PC M O P V F ns ef L s h → PC M O P V F ns ef L' s h := fun hc => hc.wide (Nat.le_refl _) (Nat.le_refl _) hL (fun _ _ => ⟨rfl, rfl⟩)
  refine ⟨g1.wide (Nat.le_refl _) hL, g2.imp (fun y => y) (fun ⟨s, y1, y2⟩ => ⟨s, y1, up y2⟩), fun j hj => ?_, g4, g5, g6, fun b hb => ?_⟩
  · obtain ⟨s, y1, y2⟩ := g3 j hj
    exact ⟨s, y1, up y2⟩
  · obtain ⟨s1, s2, y1, y2, y3, y4⟩ := g7 b hb
    exact ⟨s1, s2, y1, up y2, y3, up y4⟩
/-- a target stands -/
def tgQ (M0 : mM) (z q w T A B D N C n p O P K Ab Be Cm V F : Nat) (ns : Nat → Int) (sf ef : Nat → Nat) (c cnt L : Nat) (x : Int) (M' : mM) : Prop := FI (txS q p O P) M0 M' ∧ ((x = 0 ∧ ∃ L', nstQ z q w T A B D N C n p O P K Ab Be Cm V F ns sf ef c cnt L' M') ∨ (x = 1 ∧ ∃ L' a' : Nat, TX M' z q w T A B D N C n p O P K Ab Be Cm V F ns sf ef c cnt L' ∧ mI M' p 2 = (L' : Int) ∧ mI M' (q + 1) 2 = (a' : Int) ∧ a' ≤ n ∧ L' ≤ a' ∧ mI M' (q + 1) 5 = 0))
theorem s_rt8 (h : TX M z q w T A B D N C n p O P K Ab Be Cm V F ns sf ef c cnt L) (han : a < n) (e8 : M1 = mUI M (q + 1) 2 ((a : Int) + 1)) : mK M1 (mR M1 q 0) = 4 ∧ mR M1 q 0 = q + 1 := by
  have hN : n ≤ 16384 := by have := h.1.1.2.2.2.1.2.2.1; have := h.1.1.2.2.2.1.1.2.2.2.2.2.2.1; omega
  obtain ⟨h1, x1, g1⟩ := tx_ui h ⟨by omega, by omega⟩ e8 (Or.inr (Or.inr (Or.inr (Or.inl ⟨rfl, Or.inl rfl⟩))))
  exact ⟨by rw [h1.1.2.1.2.1]; exact h1.1.1.2.1.1, h1.1.2.1.2.1⟩
end TRD
end
section
/-! The class's reader of texts: var. -/
section TRE
variable {G : mG} {d z q w T A B D N C n p O P K Ab Be Cm V F c s s' L L' cnt Bn a d0 V1 F1 nw k : Nat} {M0 M M' M1 M2 : mM} {ns ns' ns1 : Nat → Int} {sf ef sf' ef' : Nat → Nat} {H : Nat → Nat} {S R : Nat → Prop}
/-- the item's rule k, below s' -/
def rvR (M : mM) (q O P F : Nat) (ns : Nat → Int) (L s' k : Nat) : Prop := ∃ s e H, mI M (q + 21) k = ((s : Nat) : Int) ∧ Cod M O P 0 F (nsc ns) s e H 1 ∧ L ≤ s ∧ e < s'
theorem rvR.cg {s1 s2 : Nat} (h : rvR M q O P F ns L s1 k) (h1 : mI M' (q + 21) k = mI M (q + 21) k) (hO : ∀ i, i < s1 → mI M' O i = mI M O i ∧ mI M' P i = mI M P i) (hs : s1 ≤ s2) : rvR M' q O P F ns L s2 k := by
  obtain ⟨s, e, H, a1, a2, a3, a4⟩ := h
  exact ⟨s, e, H, by rw [h1]; exact a1, a2.cg (fun i hi => (hO i (by omega)).1) (fun i hi => (hO i (by omega)).2), a3, by omega⟩
/-- what the item has so far -/
def vrS (M : mM) (q A n p L s a nw V : Nat) : Prop := mI M p 2 = ((s : Nat) : Int) ∧ L ≤ s ∧ s ≤ a ∧ mI M (q + 1) 2 = ((a : Nat) : Int) ∧ a ≤ n ∧ mI M (q + 1) 5 = 0 ∧ mI M q 3 = ((nw : Nat) : Int) ∧ nw < n ∧ mI M A nw = 2 ∧ mI M q 4 = ((L : Nat) : Int) ∧ (mI M q 8 = 0 ∨ mI M q 8 = 1) ∧ (12 ≤ V → mI M (q + 1) 3 ≠ 0)
def vaQ (M0 : mM) (z q w T A B D N C n p O P K Ab Be Cm V F : Nat) (ns : Nat → Int) (sf ef : Nat → Nat) (c cnt L : Nat) (x : Int) (M' : mM) : Prop := FI (txS q p O P) M0 M' ∧ ((x = 0 ∧ nstQ z q w T A B D N C n p O P K Ab Be Cm V F ns sf ef c cnt L M') ∨ (x = 1 ∧ TX M' z q w T A B D N C n p O P K Ab Be Cm V F ns sf ef c cnt L ∧ ∃ s a nw : Nat, vrS M' q A n p L s a nw V ∧ (mI M' q 8 = 0 → rvR M' q O P F ns L s 0 ∧ rvR M' q O P F ns L s 1) ∧ (mI M' q 7 ≠ 0 → rvR M' q O P F ns L s 2)))
end TRE
end
end
section
section
/-! The class's reader of texts: var, the whole. -/
section TRF
variable {G : mG} {d z q w T A B D N C n p O P K Ab Be Cm V F c s s' L L' cnt Bn a d0 V1 F1 nw k : Nat} {M0 M M' M1 M2 : mM} {ns ns' ns1 : Nat → Int} {sf ef sf' ef' : Nat → Nat} {H : Nat → Nat} {S R : Nat → Prop}
end TRF
end
section
/-! The class's reader of texts: worksOut. -/
section TRG
variable {G : mG} {d z q w T A B D N C n p O P K Ab Be Cm V F c s s' L L' cnt Bn a d0 V1 F1 nw k e s9 : Nat} {M0 M M' M1 M2 : mM} {ns ns' ns1 : Nat → Int} {sf ef sf' ef' : Nat → Nat} {H : Nat → Nat} {S R : Nat → Prop}
/-- a run of the machine: what stays -/
def maF (M : mM) (q Ab Be Cm : Nat) (M' : mM) (Ab' Be' Cm' : Nat) : Prop := FA (mcS (q + 11) Ab Be) (fun x => x = q + 11) M M' ∧ ((Ab' = Ab ∨ mZ M ≤ Ab') ∧ (Be' = Be ∨ mZ M ≤ Be')) ∧ (mS M' + 4 * Cm = mS M + 4 * Cm' ∧ 32 * mZ M' + Cm ≤ 32 * mZ M + Cm')
def sm4 (M M' : mM) (x : Nat) : Prop := mK M' x = mK M x ∧ mN M' x = mN M x ∧ mR M' x = mR M x ∧ mI M' x = mI M x
theorem RK.eq {r : Nat} (h : RK M r) (v : ∀ i, i ≤ 9 → sm4 M M' (r + i)) : RK M' r := by
  unfold RK at h ⊢
  have v0 := v 0 (by omega)
  rw [Nat.add_zero] at v0
  rw [v0.1, v0.2.2.1, (v 1 (by omega)).1, (v 2 (by omega)).1, (v 3 (by omega)).1, (v 4 (by omega)).1, (v 5 (by omega)).1, (v 6 (by omega)).1, (v 7 (by omega)).1, (v 8 (by omega)).1, (v 9 (by omega)).1, (v 1 (by omega)).2.1, (v 2 (by omega)).2.1, (v 3 (by omega)).2.1, (v 4 (by omega)).2.1, (v 5 (by omega)).2.1, (v 6 (by omega)).2.1, (v 7 (by omega)).2.1, (v 8 (by omega)).2.1, (v 9 (by omega)).2.1]
  exact h
theorem Wf.eq (h : Wf M w T A B D N C n) (sw : ∀ x, (x = w ∨ x = T ∨ x = A ∨ x = B ∨ x = D) → sm4 M M' x) : Wf M' w T A B D N C n := by
  unfold Wf WA at h ⊢
  obtain ⟨w1, w2, w3, w4⟩ := sw w (Or.inl rfl)
  obtain ⟨x1, x2, x3, x4⟩ := sw T (Or.inr (Or.inl rfl))
  obtain ⟨y1, y2, y3, y4⟩ := sw A (Or.inr (Or.inr (Or.inl rfl)))
  obtain ⟨z1, z2, z3, z4⟩ := sw B (Or.inr (Or.inr (Or.inr (Or.inl rfl))))
  obtain ⟨v1, v2, v3, v4⟩ := sw D (Or.inr (Or.inr (Or.inr (Or.inr rfl))))
  rw [w1, w3, w4, x1, x2, y1, y2, y4, z1, z2, z4, v1, v2, v4]
  exact h
theorem TP.st (h : TP M z q w T A B D N C n p O P K Ab Be Cm) (hf : FA (mcS (q + 11) Ab Be) (fun x => x = q + 11) M M') : ∀ x, x < mZ M → ¬ (q + 11 ≤ x ∧ x ≤ q + 20) → x ≠ Ab → x ≠ Be → sm4 M M' x := fun x hx h1 h2 h3 => by
  obtain ⟨u1, u2, u3, u4, u5⟩ := hf.2 x hx
  refine ⟨u1, u2, u4 (show ¬ x = q + 11 by first | rfl | omega), u5 (fun y => ?_)⟩
  have y' : x = q + 11 ∨ x = q + 11 + 2 ∨ (q + 11 + 5 ≤ x ∧ x ≤ q + 11 + 9) ∨ x = Ab ∨ x = Be := y
  omega
theorem ms9a {q z A x k : Nat} (a5 : A = q + 11 + k ∨ z ≤ A) (hk : k ≤ 9) (hz : q + 23 ≤ z) (h : x ≤ q + 22) (h2 : ¬ (q + 11 ≤ x ∧ x ≤ q + 20)) : x ≠ A := by omega
theorem ms9b {q p z A i k : Nat} (a1 : p + 15 < q + 11 ∨ q + 11 + 9 < p) (a4 : p + 16 ≤ z) (a5 : A = q + 11 + k ∨ z ≤ A) (hk : k ≤ 9) (hi : i ≤ 15) : p + i ≠ A := by omega
theorem ms9c {q p i : Nat} (a1 : p + 15 < q + 11 ∨ q + 11 + 9 < p) (hi : i ≤ 15) : ¬ (q + 11 ≤ p + i ∧ p + i ≤ q + 20) := by omega
theorem ms9d {q O : Nat} (a : O < q ∨ q + 22 < O) : ¬ (q + 11 ≤ O ∧ O ≤ q + 20) := by omega
theorem nab9 {x A A' Z : Nat} (o : A' = A ∨ Z ≤ A') (h : x ≠ A) (hz : x < Z) : x ≠ A' := by
  rcases o with o | o
  · rw [o]; exact h
  · omega
theorem TP.mst (h : TP M z q w T A B D N C n p O P K Ab Be Cm) (hf : FA (mcS (q + 11) Ab Be) (fun x => x = q + 11) M M') : (∀ i, i ≤ 10 → sm4 M M' (q + i)) ∧ sm4 M M' (q + 21) ∧ sm4 M M' (q + 22) ∧ (∀ i, i ≤ 15 → sm4 M M' (p + i)) ∧ sm4 M M' O ∧ sm4 M M' P ∧ (∀ x, (x = w ∨ x = T ∨ x = A ∨ x = B ∨ x = D) → sm4 M M' x) := by
  have st := h.st hf
  obtain ⟨⟨aA1, aA2, aA3, aA4, aA5, aA6⟩, aO, aP, aO2, aP2, aOP⟩ := h.apart
  have zz : z ≤ mZ M := h.2.2.2.1.2.2.2.2.2.2.1.1
  obtain ⟨pz0, pz1, pz2⟩ := h.1.2.2.2.2.1.2.2.2.2.1
  obtain ⟨s1, s2, s3⟩ := h.2.2.2.2.2.1
  clear h hf
  refine ⟨fun i hi => st _ (by omega) (by omega) (ms9a aA5 (by decide) s1 (by omega) (by omega)) (ms9a aA6 (by decide) s1 (by omega) (by omega)), st _ (by omega) (by omega) (ms9a aA5 (by decide) s1 (by omega) (by omega)) (ms9a aA6 (by decide) s1 (by omega) (by omega)), st _ (by omega) (by omega) (ms9a aA5 (by decide) s1 (by omega) (by omega)) (ms9a aA6 (by decide) s1 (by omega) (by omega)), fun i hi => st _ (by omega) (ms9c aA1 hi) (ms9b aA1 aA4 aA5 (by decide) hi) (ms9b aA1 aA4 aA6 (by decide) hi), st O pz1 (ms9d aO) aA2.1 aA2.2.1, st P pz2 (ms9d aP) aA2.2.2.1 aA2.2.2.2, fun x hx => ?_⟩
  obtain ⟨u1, u2, u3, u4⟩ := s3 x hx
  exact st x u4 (fun v => u1 ⟨Nat.le_trans (Nat.le_add_right _ _) v.1, Nat.le_trans v.2 (by omega)⟩) u2 u3
theorem TP.ma {Ab' Be' Cm' : Nat} (h : TP M z q w T A B D N C n p O P K Ab Be Cm) (ok : mOk M') (hk : MK M' z (q + 11) (q + 12) Ab' Be' Cm') (hf : FA (mcS (q + 11) Ab Be) (fun x => x = q + 11) M M') (hab : (Ab' = Ab ∨ mZ M ≤ Ab') ∧ (Be' = Be ∨ mZ M ≤ Be')) (h0 : mR M' (q + 11) 0 = mR M (q + 11) 0) : TP M' z q w T A B D N C n p O P K Ab' Be' Cm' := by
  obtain ⟨m1, m2, m3, m4, m5, m6, m7⟩ := h.mst hf
  have np : ¬ p = q + 11 := by have := h.apart.1.1; omega
  obtain ⟨⟨b1, b2, b3, b4, b5, b6, b7⟩, t1, t2, t3, t4, ⟨s1, s2, s3⟩, s4⟩ := h
  obtain ⟨pz0, pz1, pz2⟩ := b5.2.2.2.2.1
  have s0 := m1 0 (by omega)
  have r0 := m1 1 (by omega)
  rw [Nat.add_zero] at s0
  have zz := hf.1.1
  refine ⟨⟨ok, b2.eq (fun i hi => by rw [show q + 1 + i = q + (1 + i) by first | rfl | omega]; exact m1 _ (by omega)), by rw [r0.2.2.1]; exact b3, b4.eq m7, b5.fa hf np, b6, b7⟩, by rw [s0.1, s0.2.2.1]; exact t1, by rw [m2.1, m3.1, m2.2.1, m3.2.1]; exact t2, hk, by rw [h0]; exact t4, ⟨s1, s2, fun x hx => ?_⟩, ?_⟩
  · obtain ⟨u1, u2, u3, u4⟩ := s3 x hx
    exact ⟨u1, nab9 hab.1 u2 u4, nab9 hab.2 u3 u4, Nat.lt_of_lt_of_le u4 zz⟩
  · exact ⟨nab9 hab.1 s4.1 pz1, nab9 hab.2 s4.2.1 pz1, nab9 hab.1 s4.2.2.1 pz2, nab9 hab.2 s4.2.2.2 pz2⟩
theorem TX.ma {t cc : Nat} (h : TX M z q w T A B D N C n p O P K Ab Be Cm V F ns sf ef c cnt L) (hM : MS M z (q + 11) (q + 12) Ab Be Cm M' t cc) : ∃ Ab' Be' Cm', TX M' z q w T A B D N C n p O P K Ab' Be' Cm' V F ns sf ef c cnt L ∧ maF M q Ab Be Cm M' Ab' Be' Cm' ∧ (∀ j, j < t → 1 ≤ mI M' Be' j ∧ mI M' Be' j < 1000000000) ∧ (mI M' q = mI M q ∧ mI M' (q + 1) = mI M (q + 1) ∧ mI M' (q + 21) = mI M (q + 21) ∧ mI M' (q + 22) = mI M (q + 22) ∧ mI M' p = mI M p ∧ mI M' O = mI M O ∧ mI M' P = mI M P ∧ mI M' A = mI M A) := by
  obtain ⟨Ab', Be', Cm', ok, hk, hf, hab, hr, ⟨h8, htC, hb⟩, h15, hm⟩ := hM
  obtain ⟨hP, hC, hX⟩ := h
  obtain ⟨m1, m2, m3, m4, m5, m6, m7⟩ := hP.mst hf
  have s0 := m1 0 (by omega)
  have r0 := m1 1 (by omega)
  rw [Nat.add_zero] at s0
  have p0 := m4 0 (by omega)
  rw [Nat.add_zero] at p0
  have eE : txE M q p O P L M' := ⟨fun i _ _ _ _ _ _ _ _ => by rw [r0.2.2.2], fun y => by rw [r0.2.2.2]; exact y, fun i i6 i9 => by rw [show q + 1 + i = q + (1 + i) by first | rfl | omega]; exact (m1 (1 + i) (by omega)).2.2.2, fun i _ => by rw [p0.2.2.2], fun i _ i15 => (m4 i i15).2.2.2, fun i _ => ⟨by rw [m5.2.2.2], by rw [m6.2.2.2]⟩⟩
  have mA := (m7 A (Or.inr (Or.inr (Or.inl rfl)))).2.2.2
  exact ⟨Ab', Be', Cm', ⟨hP.ma ok hk hf hab hm.2.2, hC.tx mA eE (fun j => by rw [(m1 6 (by omega)).2.2.2]; exact hC.2.2.2 j), hX.tx eE⟩, ⟨hf, hab, hr⟩, hb, s0.2.2.2, r0.2.2.2, m2.2.2.2, m3.2.2.2, p0.2.2.2, m5.2.2.2, m6.2.2.2, mA⟩
/-- what working out a rule comes to -/
def wuQ (M : mM) (z q w T A B D N C n p O P K Ab Be Cm V F : Nat) (ns : Nat → Int) (sf ef : Nat → Nat) (c cnt L : Nat) (x : Int) (M' : mM) : Prop := ∃ Ab' Be' Cm', TX M' z q w T A B D N C n p O P K Ab' Be' Cm' V F ns sf ef c cnt L ∧ FA (fun x => x = q + 1 ∨ mcS (q + 11) Ab Be x) (fun x => x = q + 11) M M' ∧ ((Ab' = Ab ∨ mZ M ≤ Ab') ∧ (Be' = Be ∨ mZ M ≤ Be')) ∧ (mS M' + 4 * Cm = mS M + 4 * Cm' ∧ 32 * mZ M' + Cm ≤ 32 * mZ M + Cm') ∧ (mI M' q = mI M q ∧ (∀ i, i ≠ 3 → i ≠ 4 → mI M' (q + 1) i = mI M (q + 1) i) ∧ mI M' (q + 21) = mI M (q + 21) ∧ mI M' p = mI M p ∧ mI M' O = mI M O ∧ mI M' P = mI M P ∧ mI M' A = mI M A) ∧ ((x = 0) ∨ (x = 1 ∧ mI M' (q + 1) 3 = 0 ∧ 1 ≤ mI M' Be' 0 ∧ mI M' Be' 0 < 1000000000))
end TRG
end
section
/-! The class's reader of texts: a name is settled. -/
section TRH
variable {G : mG} {d z q w T A B D N C n p O P K Ab Be Cm V F c s s' L L' cnt Bn a d0 V1 F1 nw k e s9 Ab0 Be0 Cm0 Ab1 Be1 Cm1 : Nat} {M0 M M' M1 M2 : mM} {ns ns' ns1 : Nat → Int} {sf ef sf' ef' : Nat → Nat} {H : Nat → Nat} {S R : Nat → Prop}
/-- what reading a text may change, with the room that it takes -/
def trS (q p O P Ab Be : Nat) : Nat → Prop := fun x => txS q p O P x ∨ mcS (q + 11) Ab Be x
def trF (M0 : mM) (q p O P Ab0 Be0 Cm0 : Nat) (M : mM) (Ab Be Cm : Nat) : Prop := FA (trS q p O P Ab0 Be0) (fun x => x = q + 11) M0 M ∧ ((Ab = Ab0 ∨ mZ M0 ≤ Ab) ∧ (Be = Be0 ∨ mZ M0 ≤ Be)) ∧ (mS M + 4 * Cm0 = mS M0 + 4 * Cm ∧ 32 * mZ M + Cm0 ≤ 32 * mZ M0 + Cm)
theorem trF.refl : trF M q p O P Ab Be Cm M Ab Be Cm := ⟨FA.refl, ⟨Or.inl rfl, Or.inl rfl⟩, rfl, Nat.le_refl _⟩
theorem trF.trans (f : trF M0 q p O P Ab0 Be0 Cm0 M Ab Be Cm) (g : trF M q p O P Ab Be Cm M1 Ab1 Be1 Cm1) : trF M0 q p O P Ab0 Be0 Cm0 M1 Ab1 Be1 Cm1 := by
  obtain ⟨f1, ⟨f2, f3⟩, f4, f5⟩ := f
  obtain ⟨g1, ⟨g2, g3⟩, g4, g5⟩ := g
  have zz := f1.1.1
  refine ⟨f1.trans2 g1 (fun x hx y => ?_) (fun _ _ y => y), ⟨by omega, by omega⟩, by omega, by omega⟩
  rcases y with y | y
  · exact Or.inl y
  · refine Or.inr ?_
    have y' : x = q + 11 ∨ x = q + 11 + 2 ∨ (q + 11 + 5 ≤ x ∧ x ≤ q + 11 + 9) ∨ x = Ab ∨ x = Be := y
    show x = q + 11 ∨ x = q + 11 + 2 ∨ (q + 11 + 5 ≤ x ∧ x ≤ q + 11 + 9) ∨ x = Ab0 ∨ x = Be0
    omega
theorem trF.fi (f : FI (txS q p O P) M M1) : trF M q p O P Ab Be Cm M1 Ab Be Cm := ⟨(FI.fa f).mono (fun _ _ y => Or.inl y) (fun _ _ y => y), ⟨Or.inl rfl, Or.inl rfl⟩, by rw [f.2.2.2.2.2.1], by rw [f.2.2.2.2.1]; omega⟩
/-- an item has been read and settled -/
def itE (M0 : mM) (z q w T A B D N C n p O P K Ab0 Be0 Cm0 : Nat) (M' : mM) : Prop := ∃ (Ab Be Cm V F : Nat) (ns : Nat → Int) (sf ef : Nat → Nat) (c cnt L a : Nat), TX M' z q w T A B D N C n p O P K Ab Be Cm V F ns sf ef c cnt L ∧ mI M' p 2 = ((L : Nat) : Int) ∧ mI M' (q + 1) 2 = ((a : Nat) : Int) ∧ a ≤ n ∧ L ≤ a ∧ mI M' (q + 1) 5 = 0 ∧ trF M0 q p O P Ab0 Be0 Cm0 M' Ab Be Cm
def un (ns : Nat → Int) (F : Nat) (l : Int) : Nat → Int := fun x => if x = F then l else ns x
def uf (sf : Nat → Nat) (F v : Nat) : Nat → Nat := fun x => if x = F then v else sf x
theorem PX.cg (h : PX M q p O P V F ns sf ef L cnt) (f3 : mI M (q + 1) 3 ≠ 0 → mI M' (q + 1) 3 ≠ 0) (f5 : ∀ i, i ≠ 2 → mI M' p i = mI M p i) (f6 : ∀ i, 3 ≤ i → i ≤ 15 → mI M' (p + i) = mI M (p + i)) (f7 : ∀ i, i < L → mI M' O i = mI M O i ∧ mI M' P i = mI M P i) : PX M' q p O P V F ns sf ef L cnt := by
  obtain ⟨a1, a2⟩ := h
  refine ⟨by rw [f5 12 (by decide)]; exact a1, fun h0 => ?_⟩
  obtain ⟨u, e, g1, g2, g3, g4, g5, g6, g7⟩ := a2 (Classical.byContradiction (fun y => f3 y h0))
  have cg : ∀ {s h : Nat}, PC M O P V F ns ef L s h → PC M' O P V F ns ef L s h := fun hc => hc.cg (fun i hi => (f7 i hi).1) (fun i hi => (f7 i hi).2)
  refine ⟨u, by rw [f6 12 (by omega) (by omega)]; exact e, g1.cg (fun i hi => (f7 i hi).1) (fun i hi => (f7 i hi).2) (fun i _ => by rw [f6 7 (by omega) (by omega)]) (fun i _ => by rw [f6 8 (by omega) (by omega)]), ?_, fun j hj => ?_, by rw [f6 12 (by omega) (by omega)]; exact g4, by rw [f6 12 (by omega) (by omega)]; exact g5, by rw [f6 12 (by omega) (by omega)]; exact g6, fun b hb => ?_⟩
  · rw [f5 11 (by decide)]
    exact g2.imp (fun y => y) (fun ⟨s, y1, y2⟩ => ⟨s, y1, cg y2⟩)
  · obtain ⟨s, y1, y2⟩ := g3 j hj
    exact ⟨s, by rw [f6 11 (by omega) (by omega)]; exact y1, cg y2⟩
  · obtain ⟨s1, s2, y1, y2, y3, y4⟩ := g7 b hb
    exact ⟨s1, s2, by rw [f6 14 (by omega) (by omega)]; exact y1, cg y2, by rw [f6 15 (by omega) (by omega)]; exact y3, cg y4⟩
/-- one name more: a const with its value, or a formula with its code -/
theorem PG.name {l1 : Int} (h : PG M p O P V F ns sf ef L cnt Bn) (hLL : L ≤ L') (f7 : ∀ i, i < L → mI M' O i = mI M O i ∧ mI M' P i = mI M P i) (h11 : mI M' p 11 = mI M p 11) (f6 : ∀ i, 9 ≤ i → i ≤ 15 → mI M' (p + i) = mI M (p + i)) (h7 : ∀ i, i < F → mI M' (p + 7) i = mI M (p + 7) i) (h8 : ∀ i, i < F → mI M' (p + 8) i = mI M (p + 8) i) (new : (l1 = 4 ∧ 1 ≤ mI M' (p + 7) F ∧ mI M' (p + 7) F < 1000000000) ∨ (l1 = 7 ∧ mI M' (p + 8) F = ((L : Nat) : Int) ∧ Cod M' O P V F ns L e H 1 ∧ e < L')) : PG M' p O P V (F + 1) (un ns F l1) (uf sf F L) (uf ef F e) L' cnt Bn := by
  obtain ⟨g1, g2, g3, g4, g5, g6, g7⟩ := h
  have un0 : ∀ x, x < F → un ns F l1 x = ns x := fun x hx => by unfold un; rw [if_neg (by omega)]
  have ue0 : ∀ x, x < F → uf ef F e x = ef x := fun x hx => by unfold uf; rw [if_neg (by omega)]
  have us0 : ∀ x, x < F → uf sf F L x = sf x := fun x hx => by unfold uf; rw [if_neg (by omega)]
  have unF : un ns F l1 F = l1 := by unfold un; rw [if_pos rfl]
  have ueF : uf ef F e F = e := by unfold uf; rw [if_pos rfl]
  have usF : uf sf F L F = L := by unfold uf; rw [if_pos rfl]
  have cg : ∀ {s h : Nat}, PC M O P V F ns ef L s h → PC M' O P V (F + 1) (un ns F l1) (uf ef F e) L' s h := fun hc => (hc.cg (M' := M') (fun i hi => (f7 i hi).1) (fun i hi => (f7 i hi).2)).wide (Nat.le_refl _) (Nat.le_succ _) hLL (fun x hx => ⟨un0 x hx, ue0 x hx⟩)
  refine ⟨fun x hx => ?_, ?_, fun j hj => ?_, by rw [f6 12 (by omega) (by omega)]; exact g4, by rw [f6 12 (by omega) (by omega)]; exact g5, by rw [f6 12 (by omega) (by omega)]; exact g6, fun b hb => ?_⟩
  · by_cases y : x = F
    · subst y
      rw [unF, usF, ueF]
      rcases new with ⟨u1, u2, u3⟩ | ⟨u1, u2, u3, u4⟩
      · exact ⟨fun _ => ⟨u2, u3⟩, fun v => absurd (u1.symm.trans v) (by decide)⟩
      · refine ⟨fun v => absurd (u1.symm.trans v) (by decide), fun _ => ⟨u2, ⟨H, u3.wide (Nat.le_refl _) (Nat.le_refl _) (fun y hy => un0 y hy)⟩, u4, fun y hy v => ?_⟩⟩
        rw [ue0 y hy]
        rw [un0 y hy] at v
        exact ((g1 y hy).2 v).2.2.1
    · have hxF : x < F := by omega
      obtain ⟨a1, a2⟩ := g1 x hxF
      rw [un0 x hxF, us0 x hxF, ue0 x hxF, h7 x hxF, h8 x hxF]
      refine ⟨a1, fun v => ?_⟩
      obtain ⟨b1, ⟨Hx, b2⟩, b3, b4⟩ := a2 v
      refine ⟨b1, ⟨Hx, (b2.cg (M' := M') (fun i hi => (f7 i (by omega)).1) (fun i hi => (f7 i (by omega)).2)).wide (Nat.le_refl _) (Nat.le_refl _) (fun y hy => un0 y (by omega))⟩, by omega, fun y hy v => ?_⟩
      rw [ue0 y (by omega)]
      rw [un0 y (by omega)] at v
      exact b4 y hy v
  · rw [h11]
    exact g2.imp (fun y => y) (fun ⟨s, y1, y2⟩ => ⟨s, y1, cg y2⟩)
  · obtain ⟨s, y1, y2⟩ := g3 j hj
    exact ⟨s, by rw [f6 11 (by omega) (by omega)]; exact y1, cg y2⟩
  · obtain ⟨s1, s2, y1, y2, y3, y4⟩ := g7 b hb
    exact ⟨s1, s2, by rw [f6 14 (by omega) (by omega)]; exact y1, cg y2, by rw [f6 15 (by omega) (by omega)]; exact y3, cg y4⟩
theorem tx_name {l1 : Int} (h : TX M z q w T A B D N C n p O P K Ab Be Cm V F ns sf ef c cnt L) (h0 : mI M (q + 1) 3 = 0) (h60 : F < 60) (ok : mOk M') (f : FI (txS q p O P) M M') (hr : ∀ i, i ≤ 9 → mI M' (q + 1 + i) = mI M (q + 1 + i)) (ep : ∀ i, i ≠ 2 → i ≠ 7 → mI M' p i = mI M p i) (e7 : mI M' p 7 = ((F + 1 : Nat) : Int)) (f6 : ∀ i, 9 ≤ i → i ≤ 15 → mI M' (p + i) = mI M (p + i)) (h7 : ∀ i, i < F → mI M' (p + 7) i = mI M (p + 7) i) (h8 : ∀ i, i < F → mI M' (p + 8) i = mI M (p + 8) i) (f7 : ∀ i, i < L → mI M' O i = mI M O i ∧ mI M' P i = mI M P i) (hLL : L ≤ L') (new : (l1 = 4 ∧ 1 ≤ mI M' (p + 7) F ∧ mI M' (p + 7) F < 1000000000) ∨ (l1 = 7 ∧ mI M' (p + 8) F = ((L : Nat) : Int) ∧ Cod M' O P V F ns L e H 1 ∧ e < L')) : TX M' z q w T A B D N C n p O P K Ab Be Cm V (F + 1) (un ns F l1) (uf sf F L) (uf ef F e) c cnt L' := by
  obtain ⟨hP, ⟨c1, c2, c3, c4⟩, x1, x2⟩ := h
  have hA := (hP.words f).1
  have r0 := hr 0 (by omega)
  rw [Nat.add_zero] at r0
  refine ⟨hP.fi ok f, ⟨by rw [ep 3 (by decide) (by decide)]; exact c1, ⟨e7, by omega⟩, ?_, fun j => by rw [show q + 6 = q + 1 + 5 by first | rfl | omega, hr 5 (by omega)]; exact c4 j⟩, by rw [ep 12 (by decide) (by decide)]; exact x1, fun _ => ?_⟩
  · obtain ⟨n1, n2, n3⟩ := c3
    refine ⟨by rw [r0]; exact n1, n2, fun i hi => ?_⟩
    obtain ⟨m1, m2, m3⟩ := n3 i hi
    rw [hA, hr 6 (by omega), hr 7 (by omega), hr 8 (by omega), hr 9 (by omega)]
    refine ⟨m1, ?_, m3⟩
    rcases m2 with u | ⟨u1, u2, u3, u4⟩
    · exact Or.inl u
    · refine Or.inr ⟨u1, u2, by omega, ?_⟩
      unfold un
      rw [if_neg (by omega)]
      exact u4
  · obtain ⟨u, eu, gu⟩ := x2 h0
    exact ⟨u, by rw [f6 12 (by omega) (by omega)]; exact eu, gu.name hLL f7 (ep 11 (by decide) (by decide)) f6 h7 h8 new⟩
/-- where a fault is noted, the tables don't matter -/
theorem TX.any (h : TX M z q w T A B D N C n p O P K Ab Be Cm V F ns sf ef c cnt L) (hL : mI M (q + 1) 3 = 0 → L ≤ L') : TX M z q w T A B D N C n p O P K Ab Be Cm V F ns sf ef c cnt L' := by
  obtain ⟨hP, hC, x1, x2⟩ := h
  refine ⟨hP, hC, x1, fun h0 => ?_⟩
  obtain ⟨u, eu, gu⟩ := x2 h0
  exact ⟨u, eu, gu.longer (hL h0)⟩
end TRH
end
end
section
section
/-! The class's reader of texts: settleNamed. -/
section TRI
variable {G : mG} {d z q w T A B D N C n p O P K Ab Be Cm V F c s s' L L' cnt Bn a d0 V1 F1 nw k e s9 Ab0 Be0 Cm0 Ab1 Be1 Cm1 : Nat} {M0 M M' M1 M2 : mM} {ns ns' ns1 : Nat → Int} {sf ef sf' ef' : Nat → Nat} {H : Nat → Nat} {S R : Nat → Prop}
theorem wu_tr (f : FA (fun x => x = q + 1 ∨ mcS (q + 11) Ab Be x) (fun x => x = q + 11) M M') (g : (Ab1 = Ab ∨ mZ M ≤ Ab1) ∧ (Be1 = Be ∨ mZ M ≤ Be1)) (r : mS M' + 4 * Cm = mS M + 4 * Cm1 ∧ 32 * mZ M' + Cm ≤ 32 * mZ M + Cm1) : trF M q p O P Ab Be Cm M' Ab1 Be1 Cm1 :=
  ⟨f.mono (fun x _ y => y.elim (fun u => Or.inl (Or.inl ⟨by omega, by omega⟩)) (fun u => Or.inr u)) (fun _ _ y => y), g, r⟩
/-- the places of the program's tables -/
theorem TX.tab (h : TX M z q w T A B D N C n p O P K Ab Be Cm V F ns sf ef c cnt L) : mK M p = 6 ∧ (mR M p 4 = p + 3 ∧ mR M p 5 = p + 4 ∧ mR M p 6 = p + 5 ∧ mR M p 8 = p + 6 ∧ mR M p 9 = p + 7 ∧ mR M p 10 = p + 8 ∧ mR M p 13 = p + 9 ∧ mR M p 14 = p + 10 ∧ mR M p 15 = p + 11 ∧ mR M p 16 = p + 12 ∧ mR M p 17 = p + 13 ∧ mR M p 18 = p + 14 ∧ mR M p 19 = p + 15) ∧ (mK M (p + 3) = 30 ∧ mK M (p + 4) = 30 ∧ mK M (p + 5) = 30 ∧ mK M (p + 6) = 30 ∧ mK M (p + 7) = 30 ∧ mK M (p + 8) = 30 ∧ mK M (p + 9) = 30 ∧ mK M (p + 10) = 30 ∧ mK M (p + 11) = 30 ∧ mK M (p + 12) = 30 ∧ mK M (p + 13) = 30 ∧ mK M (p + 14) = 30 ∧ mK M (p + 15) = 30) ∧ (mN M (p + 3) = 12 ∧ mN M (p + 4) = 12 ∧ mN M (p + 5) = 12 ∧ mN M (p + 6) = 60 ∧ mN M (p + 7) = 60 ∧ mN M (p + 8) = 60 ∧ mN M (p + 9) = 60 ∧ mN M (p + 10) = 60 ∧ mN M (p + 11) = 60 ∧ mN M (p + 12) = 61 ∧ mN M (p + 13) = 480 ∧ mN M (p + 14) = 480 ∧ mN M (p + 15) = 480) := ⟨h.1.1.2.2.2.2.1.1, h.1.1.2.2.2.2.1.2.2.2.2.2.2⟩
end TRI
end
section
/-! The class's reader of texts: settleNamed, the whole; settleVar. -/
section TRJ
variable {G : mG} {d z q w T A B D N C n p O P K Ab Be Cm V F c s s' L L' cnt Bn a d0 V1 F1 nw k e s9 Ab0 Be0 Cm0 Ab1 Be1 Cm1 : Nat} {M0 M M' M1 M2 : mM} {ns ns' ns1 : Nat → Int} {sf ef sf' ef' : Nat → Nat} {H : Nat → Nat} {S R : Nat → Prop}
/-- a var that is being settled -/
def svS (M0 : mM) (z q w T A B D N C n p O P K Ab0 Be0 Cm0 V F : Nat) (ns : Nat → Int) (sf ef : Nat → Nat) (c cnt L s a nw : Nat) (M : mM) : Prop := ∃ Ab Be Cm, TX M z q w T A B D N C n p O P K Ab Be Cm V F ns sf ef c cnt L ∧ trF M0 q p O P Ab0 Be0 Cm0 M Ab Be Cm ∧ vrS M q A n p L s a nw V ∧ (mI M q 8 = 0 → rvR M q O P F ns L s 0 ∧ rvR M q O P F ns L s 1) ∧ (mI M q 7 ≠ 0 → rvR M q O P F ns L s 2)
theorem svS.pl (h : svS M0 z q w T A B D N C n p O P K Ab0 Be0 Cm0 V F ns sf ef c cnt L s a nw M) : mOk M ∧ mK M q = 3 ∧ mR M q 0 = q + 1 ∧ mK M (q + 1) = 4 ∧ mR M q 1 = q + 11 ∧ mK M (q + 11) = 5 ∧ mK M (mR M (q + 11) 6) = 30 ∧ (0 : Int) < mN M (mR M (q + 11) 6) ∧ mR M q 6 = q + 22 ∧ mK M (q + 22) = 30 ∧ mN M (q + 22) = 3 := by
  obtain ⟨Ab, Be, Cm, h1, -⟩ := h
  obtain ⟨t0, t1, t2, t3, t4, t5⟩ := h1.1.2.1
  obtain ⟨s1, s2, s3, s4⟩ := h1.1.2.2.1
  have hk := h1.1.2.2.2.1
  have m6 := hk.2.1.2.2.1
  have n6 := hk.2.2.2.1.2.1
  have c6 := hk.2.2.2.2.2.2.2.1
  exact ⟨h1.1.1.1, t0, t1, h1.1.1.2.1.1, t2, hk.1, by rw [m6]; exact hk.2.2.1.2.2.1, by rw [m6, n6]; omega, t5, s2, s4⟩
end TRJ
end
section
/-! The class's reader of texts: settleVar. -/
section TRK
variable {G : mG} {d z q w T A B D N C n p O P K Ab Be Cm V F c s s' L L' cnt Bn a d0 V1 F1 nw k e s9 Ab0 Be0 Cm0 Ab1 Be1 Cm1 : Nat} {M0 M M' M1 M2 : mM} {ns ns' ns1 : Nat → Int} {sf ef sf' ef' : Nat → Nat} {H : Nat → Nat} {S R : Nat → Prop}
theorem TN.more {r : Nat} (h : TN M r A n V F ns c) (hA : mI M' A = mI M A) (hr : mI M' r = mI M r) (ht : ∀ i, 6 ≤ i → i ≤ 9 → mI M' (r + i) = mI M (r + i)) : TN M' r A n (V + 1) F ns c := by
  obtain ⟨n1, n2, n3⟩ := h
  refine ⟨by rw [hr]; exact n1, n2, fun i hi => ?_⟩
  obtain ⟨m1, m2, m3⟩ := n3 i hi
  rw [hA, ht 6 (by omega) (by omega), ht 7 (by omega) (by omega), ht 8 (by omega) (by omega), ht 9 (by omega) (by omega)]
  refine ⟨m1, ?_, m3⟩
  rcases m2 with ⟨u1, u2, u3⟩ | u
  · exact Or.inl ⟨u1, u2, by omega⟩
  · exact Or.inr u
theorem PX.var (h : PX M q p O P V F ns sf ef L cnt) (f3 : mI M (q + 1) 3 ≠ 0 → mI M' (q + 1) 3 ≠ 0) (f5 : ∀ i, i ≠ 2 → i ≠ 3 → mI M' p i = mI M p i) (f6 : ∀ i, 6 ≤ i → i ≤ 15 → mI M' (p + i) = mI M (p + i)) (f7 : ∀ i, i < L → mI M' O i = mI M O i ∧ mI M' P i = mI M P i) : PX M' q p O P (V + 1) F ns sf ef L cnt := by
  obtain ⟨a1, a2⟩ := h
  refine ⟨by rw [f5 12 (by decide) (by decide)]; exact a1, fun h0 => ?_⟩
  obtain ⟨u, e, g1, g2, g3, g4, g5, g6, g7⟩ := a2 (Classical.byContradiction (fun y => f3 y h0))
  have cg : ∀ {s h : Nat}, PC M O P V F ns ef L s h → PC M' O P (V + 1) F ns ef L s h := fun hc => (hc.cg (M' := M') (fun i hi => (f7 i hi).1) (fun i hi => (f7 i hi).2)).wide (Nat.le_succ _) (Nat.le_refl _) (Nat.le_refl _) (fun _ _ => ⟨rfl, rfl⟩)
  refine ⟨u, by rw [f6 12 (by omega) (by omega)]; exact e, (g1.cg (M' := M') (fun i hi => (f7 i hi).1) (fun i hi => (f7 i hi).2) (fun i _ => by rw [f6 7 (by omega) (by omega)]) (fun i _ => by rw [f6 8 (by omega) (by omega)])).wide (Nat.le_succ _) (Nat.le_refl _), ?_, fun j hj => ?_, by rw [f6 12 (by omega) (by omega)]; exact g4, by rw [f6 12 (by omega) (by omega)]; exact g5, by rw [f6 12 (by omega) (by omega)]; exact g6, fun b hb => ?_⟩
  · rw [f5 11 (by decide) (by decide)]
    exact g2.imp (fun y => y) (fun ⟨s, y1, y2⟩ => ⟨s, y1, cg y2⟩)
  · obtain ⟨s, y1, y2⟩ := g3 j hj
    exact ⟨s, by rw [f6 11 (by omega) (by omega)]; exact y1, cg y2⟩
  · obtain ⟨s1, s2, y1, y2, y3, y4⟩ := g7 b hb
    exact ⟨s1, s2, by rw [f6 14 (by omega) (by omega)]; exact y1, cg y2, by rw [f6 15 (by omega) (by omega)]; exact y3, cg y4⟩
end TRK
end
end
section
theorem u7a {q p O P b : Nat} (s : q + 22 < p ∨ p + 15 < q) (o : O < q ∨ q + 22 < O) (o' : P < q ∨ q + 22 < P) (hb : b = q ∨ b = q + 21 ∨ b = q + 22) (y : (q + 1 ≤ b ∧ b ≤ q + 1 + 9) ∨ b = p ∨ b = O ∨ b = P) : False := by
  have h : q ≤ b ∧ b ≤ q + 22 ∧ ¬ (q + 1 ≤ b ∧ b ≤ q + 1 + 9) := by
    rcases hb with e | e | e <;> subst e <;> exact ⟨by omega, by omega, by omega⟩
  clear hb
  rcases y with y | y | y | y
  · exact h.2.2 y
  · clear o o'; omega
  · clear s o'; omega
  · clear s o; omega
theorem u7b {p O i k : Nat} (o : O < p ∨ O = p + k ∨ p + 15 < O) (hk : k ≤ 2) (hi : 3 ≤ i) (h15 : i ≤ 15) : O ≠ p + i := by omega
theorem u7c {q O i : Nat} (o : O < q ∨ q + 22 < O) (hi : i ≤ 22) : O ≠ q + i := by omega
theorem u7d {q p x i : Nat} (qp : q + 22 < p ∨ p + 15 < q) (h1 : q ≤ x) (h2 : x ≤ q + 22) (h15 : i ≤ 15) : x ≠ p + i := by omega
theorem u7e {q x A B : Nat} (u1 : ¬ (q ≤ x ∧ x ≤ q + 22)) (u2 : x ≠ A) (u3 : x ≠ B) (y : x = q + 11 ∨ x = q + 11 + 2 ∨ (q + 11 + 5 ≤ x ∧ x ≤ q + 11 + 9) ∨ x = A ∨ x = B) : False := by
  rcases y with y | y | y | y | y
  · exact u1 ⟨by omega, by omega⟩
  · exact u1 ⟨by omega, by omega⟩
  · exact u1 ⟨by omega, by omega⟩
  · exact u2 y
  · exact u3 y
theorem u7f {q p O P b i : Nat} (y : b = p + i) (h3 : 3 ≤ i) (h15 : i ≤ 15) : (q ≤ b ∧ b ≤ q + 10) ∨ b = q + 21 ∨ b = q + 22 ∨ b = p ∨ (p + 3 ≤ b ∧ b ≤ p + 15) ∨ b = O ∨ b = P := Or.inr (Or.inr (Or.inr (Or.inr (Or.inl ⟨by omega, by omega⟩))))
section
/-! The class's reader of texts: sets. -/
section TRL
variable {G : mG} {d z q w T A B D N C n p O P K Ab Be Cm V F c s s' L L' cnt Bn a d0 V1 F1 nw k e s9 S0 wd Ab0 Be0 Cm0 Ab1 Be1 Cm1 : Nat} {M0 M M' M1 M2 : mM} {ns ns' ns1 : Nat → Int} {sf ef sf' ef' : Nat → Nat} {H H1 : Nat → Nat} {S R : Nat → Prop}
theorem CO.join {s1 : Nat} (h : CO M O P V F ns H S0 s1 (fun _ => False)) (h0 : H s1 = 0) (g : CO M O P V F ns H1 s1 e (fun _ => False)) (g0 : H1 s1 = 0) (hs : S0 ≤ s1) (he : s1 ≤ e) : ∃ H', CO M O P V F ns H' S0 e (fun _ => False) ∧ H' S0 = H S0 ∧ H' e = H1 e := by
  obtain ⟨H', hH⟩ : ∃ H' : Nat → Nat, ∀ i, H' i = if i ≤ s1 then H i else H1 i := ⟨fun i => if i ≤ s1 then H i else H1 i, fun _ => rfl⟩
  have lo : ∀ i, i ≤ s1 → H' i = H i := fun i hi => by rw [hH, if_pos hi]
  have hi' : ∀ i, s1 ≤ i → H' i = H1 i := fun i hi => by
    by_cases y : i = s1
    · rw [y, lo s1 (Nat.le_refl _), h0, g0]
    · rw [hH, if_neg (by omega)]
  refine ⟨H', fun pc p0 p1 => ?_, lo S0 hs, hi' e he⟩
  by_cases y : pc < s1
  · obtain ⟨a1, a2, a3⟩ := h pc p0 y
    refine ⟨a1.cg (lo pc (by omega)) (lo (pc + 1) (by omega)), fun u => ?_, by rw [lo pc (by omega)]; exact a3⟩
    rcases a2 u with v | v
    · exact v.elim
    · exact Or.inr (v.cg (by omega) y (fun i hi => lo i hi))
  · obtain ⟨a1, a2, a3⟩ := g pc (by omega) p1
    refine ⟨a1.cg (hi' pc (by omega)) (hi' (pc + 1) (by omega)), fun u => ?_, by rw [hi' pc (by omega)]; omega⟩
    rcases a2 u with v | ⟨t, e1, t1, t2, t3, t4⟩
    · exact v.elim
    · refine Or.inr ⟨t, e1, t1, t2, ?_, ?_⟩
      · rw [hi' t (by omega), hi' pc (by omega)]; exact t3
      · rw [hi' t (by omega), hi' pc (by omega)]; exact t4
/-- the code of sets from S0 to s -/
def scI (M : mM) (O P V F : Nat) (ns : Nat → Int) (S0 s : Nat) : Prop := ∃ H, CO M O P V F ns H S0 s (fun _ => False) ∧ H S0 = 0 ∧ H s = 0 ∧ S0 ≤ s
theorem scI.cg (h : scI M O P V F ns S0 s) (hO : ∀ i, i < s → mI M' O i = mI M O i ∧ mI M' P i = mI M P i) : scI M' O P V F ns S0 s := by
  obtain ⟨H, h1, h2⟩ := h
  refine ⟨H, fun pc p0 p1 => ?_, h2⟩
  rw [(hO pc p1).1, (hO pc p1).2]
  exact h1 pc p0 p1
/-- one set more: a rule from s to e, and its SET -/
theorem scI.set {x : Int} (h : scI M O P V F ns S0 s) (g : CO M O P V F ns H1 s e (fun _ => False)) (g0 : H1 s = 0) (g1 : H1 e = 1) (hse : 1 + s ≤ e) (hO : ∀ i, mI M' O i = if i = e then 43 else mI M O i) (hP : ∀ i, mI M' P i = if i = e then x else mI M P i) (hx : 0 ≤ x ∧ x ≤ 1000000 ∧ x % 16 < V) : scI M' O P V F ns S0 (e + 1) := by
  obtain ⟨H, h1, h2, h3, h4⟩ := h
  obtain ⟨H', j1, j2, j3⟩ := h1.join h3 g g0 h4 (by omega)
  obtain ⟨H2, hH⟩ : ∃ H2 : Nat → Nat, ∀ i, H2 i = if i ≤ e then H' i else 0 := ⟨fun i => if i ≤ e then H' i else 0, fun _ => rfl⟩
  have lo : ∀ i, i ≤ e → H2 i = H' i := fun i hi => by rw [hH, if_pos hi]
  have l1 : H2 (e + 1) = 0 := by rw [hH, if_neg (by omega)]
  have l0 := lo e (Nat.le_refl _)
  refine ⟨H2, j1.add (by omega) lo (by omega) hO hP (fun i _ u => u) ?_ (fun u => ?_), by rw [lo S0 (by omega), j2, h2], l1, by omega⟩
  · exact Or.inr (Or.inr (Or.inr (Or.inr (Or.inr (Or.inr (Or.inr ⟨rfl, hx.1, hx.2.1, hx.2.2, by omega⟩))))))
  · exact absurd u (by unfold jm; omega)
def rsI (M0 : mM) (z q w T A B D N C n p O P K Ab Be Cm V F : Nat) (ns : Nat → Int) (sf ef : Nat → Nat) (c cnt L S0 a s9 : Nat) (M : mM) : Prop := TX M z q w T A B D N C n p O P K Ab Be Cm V F ns sf ef c cnt L ∧ txF M0 q p O P S0 M ∧ mI M (q + 1) 2 = ((a : Nat) : Int) ∧ a ≤ n ∧ mI M p 2 = ((s9 : Nat) : Int) ∧ S0 ≤ s9 ∧ s9 ≤ a ∧ mI M (q + 1) 5 = 0 ∧ mI M (q + 1) 6 = 0 ∧ (mI M (q + 1) 3 = 0 → scI M O P V F ns S0 s9) ∧ L ≤ S0
def rsQ9 (M0 : mM) (z q w T A B D N C n p O P K Ab Be Cm V F : Nat) (ns : Nat → Int) (sf ef : Nat → Nat) (c cnt L S0 : Nat) (x : Int) (M : mM) : Prop := txF M0 q p O P S0 M ∧ ((x = 0 ∧ nstQ z q w T A B D N C n p O P K Ab Be Cm V F ns sf ef c cnt L M) ∨ (x = 1 ∧ TX M z q w T A B D N C n p O P K Ab Be Cm V F ns sf ef c cnt L ∧ ∃ a s9 : Nat, mI M (q + 1) 2 = ((a : Nat) : Int) ∧ a ≤ n ∧ mI M p 2 = ((s9 + 1 : Nat) : Int) ∧ S0 ≤ s9 ∧ s9 ≤ a ∧ mI M (q + 1) 5 = 0 ∧ mI M (q + 1) 6 = 0 ∧ (mI M (q + 1) 3 = 0 → ∃ H, Cod M O P V F ns S0 s9 H 0)))
end TRL
end
section
/-! The class's reader of texts: sets, the whole; chances. -/
section TRM
variable {G : mG} {d z q w T A B D N C n p O P K Ab Be Cm V F c s s' L L' cnt Bn a d0 V1 F1 nw k e s9 S0 wd ix nbr Ab0 Be0 Cm0 Ab1 Be1 Cm1 : Nat} {M0 M M' M1 M2 : mM} {ns ns' ns1 : Nat → Int} {sf ef sf' ef' : Nat → Nat} {H H1 : Nat → Nat} {S R : Nat → Prop}
theorem rsI.note (h : rsI M0 z q w T A B D N C n p O P K Ab Be Cm V F ns sf ef c cnt L S0 a s9 M) (h2 : TX M' z q w T A B D N C n p O P K Ab Be Cm V F ns sf ef c cnt L) (x2 : txF M q p O P L M') (r2 : ∀ i, i ≠ 3 → i ≠ 4 → mI M' (q + 1) i = mI M (q + 1) i) (b2 : ∀ b, b ≠ q + 1 → mI M' b = mI M b) : rsI M0 z q w T A B D N C n p O P K Ab Be Cm V F ns sf ef c cnt L S0 a s9 M' := by
  obtain ⟨h1, f1, a1, a2, p1, p2, p3, d1, c1, sc, hL⟩ := h
  obtain ⟨⟨np0, np1, -, -⟩, ⟨nO0, nO1, -, -, -⟩, nP0, nP1, -, -, -⟩ := h1.1.ne
  refine ⟨h2, f1.trans ⟨x2.1, x2.2.1, x2.2.2.1, x2.2.2.2.1, x2.2.2.2.2.1, x2.2.2.2.2.2.1, fun i _ => ⟨by rw [b2 O nO1], by rw [b2 P nP1]⟩⟩, by rw [r2 2 (by decide) (by decide)]; exact a1, a2, by rw [b2 p np1]; exact p1, p2, p3, by rw [r2 5 (by decide) (by decide)]; exact d1, by rw [r2 6 (by decide) (by decide)]; exact c1, fun y => ?_, hL⟩
  exact (sc (Classical.byContradiction (fun u => x2.2.2.1 u y))).cg (fun i _ => ⟨by rw [b2 O nO1], by rw [b2 P nP1]⟩)
/-- a word more -/
theorem rsI.acc (h : rsI M0 z q w T A B D N C n p O P K Ab Be Cm V F ns sf ef c cnt L S0 a s9 M) (h2 : TX M' z q w T A B D N C n p O P K Ab Be Cm V F ns sf ef c cnt L) (x2 : txF M q p O P L M') (ha : mI M' (q + 1) 2 = ((a + 1 : Nat) : Int)) (han : a < n) (r2 : ∀ i, i ≠ 2 → mI M' (q + 1) i = mI M (q + 1) i) (b2 : ∀ b, b ≠ q + 1 → mI M' b = mI M b) : rsI M0 z q w T A B D N C n p O P K Ab Be Cm V F ns sf ef c cnt L S0 (a + 1) s9 M' := by
  obtain ⟨h1, f1, a1, a2, p1, p2, p3, d1, c1, sc, hL⟩ := h
  obtain ⟨⟨np0, np1, -, -⟩, ⟨nO0, nO1, -, -, -⟩, nP0, nP1, -, -, -⟩ := h1.1.ne
  refine ⟨h2, f1.trans ⟨x2.1, x2.2.1, x2.2.2.1, x2.2.2.2.1, x2.2.2.2.2.1, x2.2.2.2.2.2.1, fun i _ => ⟨by rw [b2 O nO1], by rw [b2 P nP1]⟩⟩, ha, han, by rw [b2 p np1]; exact p1, p2, Nat.le_succ_of_le p3, by rw [r2 5 (by decide)]; exact d1, by rw [r2 6 (by decide)]; exact c1, fun y => ?_, hL⟩
  exact (sc (Classical.byContradiction (fun u => x2.2.2.1 u y))).cg (fun i _ => ⟨by rw [b2 O nO1], by rw [b2 P nP1]⟩)
end TRM
end
section
/-! The class's reader of texts: a command's chances. -/
section TRN
variable {G : mG} {d z q w T A B D N C n p O P K Ab Be Cm V F c s s' L L' cnt Bn a d0 V1 F1 nw k e s9 S0 wd ix nbr u v Ab0 Be0 Cm0 Ab1 Be1 Cm1 : Nat} {M0 M M' M1 M2 : mM} {ns ns' ns1 : Nat → Int} {sf ef sf' ef' : Nat → Nat} {H H1 : Nat → Nat} {S R : Nat → Prop}
theorem PG.cg (h : PG M p O P V F ns sf ef L cnt Bn) (h11 : mI M' p 11 = mI M p 11) (f6 : ∀ i, 7 ≤ i → i ≤ 12 → mI M' (p + i) = mI M (p + i)) (fb : ∀ b, b < Bn → mI M' (p + 14) b = mI M (p + 14) b ∧ mI M' (p + 15) b = mI M (p + 15) b) (f7 : ∀ i, i < L → mI M' O i = mI M O i ∧ mI M' P i = mI M P i) : PG M' p O P V F ns sf ef L cnt Bn := by
  obtain ⟨g1, g2, g3, g4, g5, g6, g7⟩ := h
  have cg : ∀ {s h : Nat}, PC M O P V F ns ef L s h → PC M' O P V F ns ef L s h := fun hc => hc.cg (fun i hi => (f7 i hi).1) (fun i hi => (f7 i hi).2)
  refine ⟨g1.cg (fun i hi => (f7 i hi).1) (fun i hi => (f7 i hi).2) (fun i _ => by rw [f6 7 (by omega) (by omega)]) (fun i _ => by rw [f6 8 (by omega) (by omega)]), ?_, fun j hj => ?_, by rw [f6 12 (by omega) (by omega)]; exact g4, by rw [f6 12 (by omega) (by omega)]; exact g5, by rw [f6 12 (by omega) (by omega)]; exact g6, fun b hb => ?_⟩
  · rw [h11]
    exact g2.imp (fun y => y) (fun ⟨s, y1, y2⟩ => ⟨s, y1, cg y2⟩)
  · obtain ⟨s, y1, y2⟩ := g3 j hj
    exact ⟨s, by rw [f6 11 (by omega) (by omega)]; exact y1, cg y2⟩
  · obtain ⟨s1, s2, y1, y2, y3, y4⟩ := g7 b hb
    exact ⟨s1, s2, by rw [(fb b hb).1]; exact y1, cg y2, by rw [(fb b hb).2]; exact y3, cg y4⟩
/-- a command that is being read: its guard, and nbr branches -/
def CY (M : mM) (q p O P V F : Nat) (ns : Nat → Int) (sf ef : Nat → Nat) (L cnt ix nbr : Nat) : Prop := mI M (q + 1) 3 = 0 → ix = cnt ∧ cnt < 60 ∧ ∃ u v : Nat, mI M (p + 12) cnt = ((u : Nat) : Int) ∧ mI M (p + 12) (cnt + 1) = ((v : Nat) : Int) ∧ v = u + nbr ∧ nbr ≤ 8 ∧ PG M p O P V F ns sf ef L cnt v ∧ ∃ s : Nat, mI M (p + 11) cnt = ((s : Nat) : Int) ∧ PC M O P V F ns ef L s 1
theorem CY.cg (h : CY M q p O P V F ns sf ef L cnt ix nbr) (f3 : mI M (q + 1) 3 ≠ 0 → mI M' (q + 1) 3 ≠ 0) (h11 : mI M' p 11 = mI M p 11) (f6 : ∀ i, 7 ≤ i → i ≤ 12 → mI M' (p + i) = mI M (p + i)) (fb : ∀ v, mI M (p + 12) (cnt + 1) = ((v : Nat) : Int) → ∀ b, b < v → mI M' (p + 14) b = mI M (p + 14) b ∧ mI M' (p + 15) b = mI M (p + 15) b) (f7 : ∀ i, i < L → mI M' O i = mI M O i ∧ mI M' P i = mI M P i) : CY M' q p O P V F ns sf ef L cnt ix nbr := fun h0 => by
  obtain ⟨a1, a2, u, v, b1, b2, b3, b4, b5, s, b6, b7⟩ := h (Classical.byContradiction (fun y => f3 y h0))
  exact ⟨a1, a2, u, v, by rw [f6 12 (by omega) (by omega)]; exact b1, by rw [f6 12 (by omega) (by omega)]; exact b2, b3, b4, b5.cg h11 f6 (fb v b2) f7, s, by rw [f6 11 (by omega) (by omega)]; exact b6, b7.cg (fun i hi => (f7 i hi).1) (fun i hi => (f7 i hi).2)⟩
theorem CY.tx (h : CY M q p O P V F ns sf ef L cnt ix nbr) (f : txE M q p O P L M') : CY M' q p O P V F ns sf ef L cnt ix nbr := by
  obtain ⟨f2, f3, f4, f5, f6, f7⟩ := f
  exact h.cg f3 (f5 11 (by decide)) (fun i _ _ => f6 i (by omega) (by omega)) (fun v _ b _ => ⟨by rw [f6 14 (by omega) (by omega)], by rw [f6 15 (by omega) (by omega)]⟩) f7
theorem CY.longer (h : CY M q p O P V F ns sf ef L cnt ix nbr) (hL : L ≤ L') : CY M q p O P V F ns sf ef L' cnt ix nbr := fun h0 => by
  obtain ⟨a1, a2, u, v, b1, b2, b3, b4, b5, s, b6, b7⟩ := h h0
  exact ⟨a1, a2, u, v, b1, b2, b3, b4, b5.longer hL, s, b6, b7.wide (Nat.le_refl _) (Nat.le_refl _) hL (fun _ _ => ⟨rfl, rfl⟩)⟩
/-- what readChance comes to -/
def chQ9 (M0 : mM) (z q w T A B D N C n p O P K Ab Be Cm V F : Nat) (ns : Nat → Int) (sf ef : Nat → Nat) (c cnt L ix nbr : Nat) (x : Int) (M : mM) : Prop := FI (txS q p O P) M0 M ∧ ((x = 0 ∧ nstQ z q w T A B D N C n p O P K Ab Be Cm V F ns sf ef c cnt L M) ∨ (x = 1 ∧ TX M z q w T A B D N C n p O P K Ab Be Cm V F ns sf ef c cnt L ∧ (mI M0 (q + 1) 3 ≠ 0 → mI M (q + 1) 3 ≠ 0) ∧ ∃ a e : Nat, mI M (q + 1) 2 = ((a : Nat) : Int) ∧ a ≤ n ∧ mI M p 2 = ((e + 1 : Nat) : Int) ∧ L ≤ e ∧ e + 1 ≤ a ∧ mI M (q + 1) 5 = 0 ∧ mI M (q + 1) 6 = 0 ∧ CY M q p O P V F ns sf ef L cnt ix nbr ∧ (mI M (q + 1) 3 = 0 → ∃ v H, mI M (p + 12) (cnt + 1) = ((v : Nat) : Int) ∧ mI M (p + 14) v = ((L : Nat) : Int) ∧ mI M (p + 15) v = ((e + 1 : Nat) : Int) ∧ Cod M O P V F ns L e H 1)))
/-- the tables of branches are written at v -/
theorem tx_br {x : Int} (h : TX M z q w T A B D N C n p O P K Ab Be Cm V F ns sf ef c cnt L) (cy : CY M q p O P V F ns sf ef L cnt ix nbr) (h0 : mI M (q + 1) 3 = 0) (hv : mI M (p + 12) (cnt + 1) = ((v : Nat) : Int)) (ok : mOk M') (f : FI (fun b => b = p + 13 ∨ b = p + 14 ∨ b = p + 15) M M') (e14 : ∀ i, mI M' (p + 14) i = if i = v then ((L : Nat) : Int) else mI M (p + 14) i) (e15 : ∀ i, mI M' (p + 15) i = if i = v then x else mI M (p + 15) i) : TX M' z q w T A B D N C n p O P K Ab Be Cm V F ns sf ef c cnt L ∧ CY M' q p O P V F ns sf ef L cnt ix nbr ∧ FI (txS q p O P) M M' ∧ (∀ b, b ≠ p + 13 → b ≠ p + 14 → b ≠ p + 15 → mI M' b = mI M b) := by
  have ap := h.1.apart
  have qp := h.1.2.2.2.2.2.1.2.1
  have nb : ∀ b, b ≠ p + 13 → b ≠ p + 14 → b ≠ p + 15 → mI M' b = mI M b := fun b b1 b2 b3 => f.2.2.2.2.2.2 b (fun y => by
    have y' : b = p + 13 ∨ b = p + 14 ∨ b = p + 15 := y
    exact y'.elim b1 (fun y => y.elim b2 b3))
  have fx : FI (txS q p O P) M M' := f.mono (fun b y => by
    have y' : b = p + 13 ∨ b = p + 14 ∨ b = p + 15 := y
    rcases y' with y | y | y
    · exact u7f y (by decide) (by decide)
    · exact u7f y (by decide) (by decide)
    · exact u7f y (by decide) (by decide))
  have nO := nb O (by first | (have h1 := ap.2.2.2.1; have h2 := ap.2.1; omega) | omega) (by first | (have h1 := ap.2.2.2.1; have h2 := ap.2.1; omega) | omega) (by first | (have h1 := ap.2.2.2.1; have h2 := ap.2.1; omega) | omega)
  have nP := nb P (by first | (have h1 := ap.2.2.2.2.1; have h2 := ap.2.2.1; omega) | omega) (by first | (have h1 := ap.2.2.2.2.1; have h2 := ap.2.2.1; omega) | omega) (by first | (have h1 := ap.2.2.2.2.1; have h2 := ap.2.2.1; omega) | omega)
  have np := nb p (by first | (have h1 := qp; omega) | omega) (by first | (have h1 := qp; omega) | omega) (by first | (have h1 := qp; omega) | omega)
  have nr : ∀ i, i ≤ 10 → mI M' (q + i) = mI M (q + i) := fun i hi => nb _ (u7d qp (by omega) (by omega) (by decide)) (u7d qp (by omega) (by omega) (by decide)) (u7d qp (by omega) (by omega) (by decide))
  have n6 : ∀ i, 7 ≤ i → i ≤ 12 → mI M' (p + i) = mI M (p + i) := fun i h7 h12 => nb _ (by omega) (by omega) (by omega)
  have fb : ∀ b, b < v → mI M' (p + 14) b = mI M (p + 14) b ∧ mI M' (p + 15) b = mI M (p + 15) b := fun b hb => ⟨by rw [e14, if_neg (by omega)], by rw [e15, if_neg (by omega)]⟩
  clear ap qp
  obtain ⟨hP, ⟨c1, c2, c3, c4⟩, x1, x2⟩ := h
  refine ⟨⟨hP.fi ok fx, ⟨by rw [np]; exact c1, by rw [np]; exact c2, ?_, fun j => by rw [nr 6 (by omega)]; exact c4 j⟩, by rw [np]; exact x1, fun _ => ?_⟩, cy.cg (fun y => by rw [nr 1 (by omega)]; exact y) (by rw [np]) n6 (fun v' hv' b hb => ?_) (fun i _ => ⟨by rw [nO], by rw [nP]⟩), fx, nb⟩
  · unfold TN at c3 ⊢
    rw [(hP.words fx).1, nr 1 (by omega), show q + 1 + 6 = q + 7 by first | rfl | omega, show q + 1 + 7 = q + 8 by first | rfl | omega, show q + 1 + 8 = q + 9 by first | rfl | omega, show q + 1 + 9 = q + 10 by first | rfl | omega, nr 7 (by omega), nr 8 (by omega), nr 9 (by omega), nr 10 (by omega)]
    exact c3
  · obtain ⟨u, eu, gu⟩ := x2 h0
    obtain ⟨-, -, u', v', b1, b2, b3, -⟩ := cy h0
    have uv : u ≤ v := by
      rw [eu] at b1
      rw [hv] at b2
      omega
    exact ⟨u, by rw [n6 12 (by omega) (by omega)]; exact eu, gu.cg (by rw [np]) n6 (fun b hb => fb b (by omega)) (fun i _ => ⟨by rw [nO], by rw [nP]⟩)⟩
  · rw [hv] at hv'
    exact fb b (by omega)
end TRN
end
end
section
section
/-! The class's reader of texts: a command's branches. -/
section TRO
variable {G : mG} {d z q w T A B D N C n p O P K Ab Be Cm V F c s s' L L' cnt Bn a d0 V1 F1 nw k e s9 S0 wd ix nbr u v Ab0 Be0 Cm0 Ab1 Be1 Cm1 : Nat} {M0 M M' M1 M2 : mM} {ns ns' ns1 : Nat → Int} {sf ef sf' ef' : Nat → Nat} {H H1 : Nat → Nat} {S R : Nat → Prop}
theorem PG.up (h : PG M p O P V F ns sf ef L cnt Bn) (h11 : mI M' p 11 = mI M p 11) (t7 : mI M' (p + 7) = mI M (p + 7)) (t8 : mI M' (p + 8) = mI M (p + 8)) (t11 : ∀ j, j < cnt → mI M' (p + 11) j = mI M (p + 11) j) (t12 : ∀ j, j ≤ cnt → mI M' (p + 12) j = mI M (p + 12) j) (fb : ∀ b, b < Bn → mI M' (p + 14) b = mI M (p + 14) b ∧ mI M' (p + 15) b = mI M (p + 15) b) (f7 : ∀ i, i < L → mI M' O i = mI M O i ∧ mI M' P i = mI M P i) : PG M' p O P V F ns sf ef L cnt Bn := by
  obtain ⟨g1, g2, g3, g4, g5, g6, g7⟩ := h
  have cg : ∀ {s h : Nat}, PC M O P V F ns ef L s h → PC M' O P V F ns ef L s h := fun hc => hc.cg (fun i hi => (f7 i hi).1) (fun i hi => (f7 i hi).2)
  refine ⟨g1.cg (fun i hi => (f7 i hi).1) (fun i hi => (f7 i hi).2) (fun i _ => by rw [t7]) (fun i _ => by rw [t8]), ?_, fun j hj => ?_, by rw [t12 0 (by omega)]; exact g4, fun j hj => by rw [t12 j (by omega), t12 (j + 1) (by omega)]; exact g5 j hj, by rw [t12 cnt (Nat.le_refl _)]; exact g6, fun b hb => ?_⟩
  · rw [h11]
    exact g2.imp (fun y => y) (fun ⟨s, y1, y2⟩ => ⟨s, y1, cg y2⟩)
  · obtain ⟨s, y1, y2⟩ := g3 j hj
    exact ⟨s, by rw [t11 j hj]; exact y1, cg y2⟩
  · obtain ⟨s1, s2, y1, y2, y3, y4⟩ := g7 b hb
    exact ⟨s1, s2, by rw [(fb b hb).1]; exact y1, cg y2, by rw [(fb b hb).2]; exact y3, cg y4⟩
/-- a table of commands is written, where no command is yet -/
theorem TX.up {b j : Nat} {x : Int} (h : TX M z q w T A B D N C n p O P K Ab Be Cm V F ns sf ef c cnt L) (hx : i32 x) (e1 : M' = mUI M (p + b) j x) (hb : 9 ≤ b ∧ b ≤ 12) (h11 : b = 11 → mI M (q + 1) 3 = 0 → cnt ≤ j) (h12 : b = 12 → mI M (q + 1) 3 = 0 → cnt < j) : TX M' z q w T A B D N C n p O P K Ab Be Cm V F ns sf ef c cnt L ∧ FI (txS q p O P) M M' ∧ (∀ y, y ≠ p + b → mI M' y = mI M y) ∧ (∀ i, mI M' (p + b) i = if i = j then x else mI M (p + b) i) := by
  have ap := h.1.apart
  have qp := h.1.2.2.2.2.2.1.2.1
  have ok : mOk M' := by rw [e1]; exact mOk_UI h.1.1.1 hx
  have f : FI (fun y => y = p + b) M M' := by rw [e1]; exact FI.ui rfl
  have nb : ∀ y, y ≠ p + b → mI M' y = mI M y := fun y hy => f.2.2.2.2.2.2 y hy
  have ib : ∀ i, mI M' (p + b) i = if i = j then x else mI M (p + b) i := fun i => by
    rw [mI_ui _ i e1]
    by_cases y : i = j
    · rw [if_pos ⟨rfl, y⟩, if_pos y]
    · rw [if_neg (fun t => y t.2), if_neg y]
  have fx : FI (txS q p O P) M M' := f.mono (fun y hy => by
    have hy' : y = p + b := hy
    exact u7f hy' (by omega) (by omega))
  have nO := nb O (by first | (have h1 := ap.2.2.2.1; have h2 := ap.2.1; omega) | omega)
  have nP := nb P (by first | (have h1 := ap.2.2.2.2.1; have h2 := ap.2.2.1; omega) | omega)
  have np := nb p (by first | (have h1 := qp; omega) | omega)
  have nr : ∀ i, i ≤ 10 → mI M' (q + i) = mI M (q + i) := fun i hi => nb _ (by omega)
  obtain ⟨hP, ⟨c1, c2, c3, c4⟩, x1, x2⟩ := h
  refine ⟨⟨hP.fi ok fx, ⟨by rw [np]; exact c1, by rw [np]; exact c2, ?_, fun j => by rw [nr 6 (by omega)]; exact c4 j⟩, by rw [np]; exact x1, fun y0 => ?_⟩, fx, nb, ib⟩
  · unfold TN at c3 ⊢
    rw [(hP.words fx).1, nr 1 (by omega), show q + 1 + 6 = q + 7 by first | rfl | omega, show q + 1 + 7 = q + 8 by first | rfl | omega, show q + 1 + 8 = q + 9 by first | rfl | omega, show q + 1 + 9 = q + 10 by first | rfl | omega, nr 7 (by omega), nr 8 (by omega), nr 9 (by omega), nr 10 (by omega)]
    exact c3
  · rw [nr 1 (by omega)] at y0
    obtain ⟨u, eu, gu⟩ := x2 y0
    have t11 : ∀ i, i < cnt → mI M' (p + 11) i = mI M (p + 11) i := fun i hi => by
      by_cases yb : b = 11
      · have := h11 yb y0
        rw [← yb, ib, if_neg (by omega)]
      · rw [nb _ (by omega)]
    have t12 : ∀ i, i ≤ cnt → mI M' (p + 12) i = mI M (p + 12) i := fun i hi => by
      by_cases yb : b = 12
      · have := h12 yb y0
        rw [← yb, ib, if_neg (by omega)]
      · rw [nb _ (by omega)]
    exact ⟨u, by rw [t12 cnt (Nat.le_refl _)]; exact eu, gu.up (by rw [np]) (nb _ (by omega)) (nb _ (by omega)) t11 t12 (fun b' _ => ⟨by rw [nb _ (by omega)], by rw [nb _ (by omega)]⟩) (fun i _ => ⟨by rw [nO], by rw [nP]⟩)⟩
/-- a branch is counted -/
theorem tx_nb (h : TX M z q w T A B D N C n p O P K Ab Be Cm V F ns sf ef c cnt L) (cy : CY M q p O P V F ns sf ef L cnt ix nbr) (h0 : mI M (q + 1) 3 = 0) (n8 : nbr < 8) (hv : mI M (p + 12) (cnt + 1) = ((v : Nat) : Int)) (b14 : mI M (p + 14) v = ((s : Nat) : Int)) (p14 : PC M O P V F ns ef L' s 1) (b15 : mI M (p + 15) v = ((s' : Nat) : Int)) (p15 : PC M O P V F ns ef L' s' 0) (hLL : L ≤ L') (e1 : M' = mUI M (p + 12) (cnt + 1) ((v : Int) + 1)) : TX M' z q w T A B D N C n p O P K Ab Be Cm V F ns sf ef c cnt L' ∧ CY M' q p O P V F ns sf ef L' cnt ix (nbr + 1) ∧ FI (txS q p O P) M M' ∧ (∀ y, y ≠ p + 12 → mI M' y = mI M y) := by
  obtain ⟨g1, g2, u, v', g3, g4, g5, g6, g7, sg, g8, g9⟩ := cy h0
  have vv : v' = v := by rw [hv] at g4; omega
  subst vv
  obtain ⟨u', g10, -, g11⟩ := g7.2.2.2.2.2.1
  have vb : v' < 480 := by
    rw [g3] at g10
    omega
  obtain ⟨h', fx, nb, ib⟩ := h.up (b := 12) ⟨by omega, by omega⟩ e1 ⟨by omega, by omega⟩ (fun y => absurd y (by omega)) (fun _ _ => by omega)
  have ap := h.1.apart
  have qp := h.1.2.2.2.2.2.1.2.1
  have nO := nb O (by first | (have h1 := ap.2.2.2.1; have h2 := ap.2.1; omega) | omega)
  have nP := nb P (by first | (have h1 := ap.2.2.2.2.1; have h2 := ap.2.2.1; omega) | omega)
  have nr := nb (q + 1) (by omega)
  have np := nb p (by first | (have h1 := qp; omega) | omega)
  refine ⟨h'.any (fun _ => hLL), fun _ => ?_, fx, nb⟩
  have cg : ∀ {s h : Nat}, PC M O P V F ns ef L' s h → PC M' O P V F ns ef L' s h := fun hc => hc.cg (fun i _ => by rw [nO]) (fun i _ => by rw [nP])
  have gg := (g7.longer hLL).up (M' := M') (by rw [np]) (nb _ (by omega)) (nb _ (by omega)) (fun i _ => by rw [nb _ (by omega)]) (fun i hi => by rw [ib, if_neg (by omega)]) (fun b' _ => ⟨by rw [nb _ (by omega)], by rw [nb _ (by omega)]⟩) (fun i _ => ⟨by rw [nO], by rw [nP]⟩)
  refine ⟨g1, g2, u, v' + 1, by rw [ib, if_neg (by omega)]; exact g3, by rw [ib, if_pos rfl]; omega, by omega, by omega, ?_, sg, by rw [nb _ (by omega)]; exact g8, cg (g9.wide (Nat.le_refl _) (Nat.le_refl _) hLL (fun _ _ => ⟨rfl, rfl⟩))⟩
  obtain ⟨k1, k2, k3, k4, k5, ⟨uu, k6, k7, k8⟩, k9⟩ := gg
  refine ⟨k1, k2, k3, k4, k5, ⟨uu, k6, by omega, k8⟩, fun b hb => ?_⟩
  by_cases y : b = v'
  · subst y
    exact ⟨s, s', by rw [nb _ (by omega)]; exact b14, cg p14, by rw [nb _ (by omega)]; exact b15, cg p15⟩
  · exact k9 b (by omega)
/-- a command that has been read -/
def cmQ9 (M0 : mM) (z q w T A B D N C n p O P K Ab Be Cm V F : Nat) (ns : Nat → Int) (sf ef : Nat → Nat) (c : Nat) (x : Int) (M' : mM) : Prop := FI (txS q p O P) M0 M' ∧ ((x = 0 ∧ ∃ L' cnt', nstQ z q w T A B D N C n p O P K Ab Be Cm V F ns sf ef c cnt' L' M') ∨ (x = 1 ∧ ∃ L' cnt' a' : Nat, TX M' z q w T A B D N C n p O P K Ab Be Cm V F ns sf ef c cnt' L' ∧ mI M' p 2 = ((L' : Nat) : Int) ∧ mI M' (q + 1) 2 = ((a' : Nat) : Int) ∧ a' ≤ n ∧ L' ≤ a' ∧ mI M' (q + 1) 5 = 0))
/-- between two branches -/
def cmI (M0 : mM) (z q w T A B D N C n p O P K Ab Be Cm V F : Nat) (ns : Nat → Int) (sf ef : Nat → Nat) (c cnt L ix nbr a : Nat) (M : mM) : Prop := FI (txS q p O P) M0 M ∧ TX M z q w T A B D N C n p O P K Ab Be Cm V F ns sf ef c cnt L ∧ CY M q p O P V F ns sf ef L cnt ix nbr ∧ mI M (q + 1) 2 = ((a : Nat) : Int) ∧ a ≤ n ∧ mI M p 2 = ((L : Nat) : Int) ∧ mI M (q + 1) 5 = 0 ∧ mI M (q + 1) 6 = 0 ∧ ix ≤ 59
end TRO
end
section
/-! The class's reader of texts: commands, the whole. -/
section TRP
variable {G : mG} {d z q w T A B D N C n p O P K Ab Be Cm V F c s s' L L' cnt Bn a d0 V1 F1 nw k e s9 S0 wd ix nbr u v i Ab0 Be0 Cm0 Ab1 Be1 Cm1 : Nat} {M0 M M' M1 M2 : mM} {ns ns' ns1 : Nat → Int} {sf ef sf' ef' : Nat → Nat} {H H1 : Nat → Nat} {S R : Nat → Prop}
/-- behind a branch: it is counted, if no fault is noted -/
theorem s_rc_cnt (f1 : FI (txS q p O P) M0 M) (h : TX M z q w T A B D N C n p O P K Ab Be Cm V F ns sf ef c cnt L) (cy : CY M q p O P V F ns sf ef L cnt ix nbr) (n8 : mI M (q + 1) 3 = 0 → nbr < 8) (a1 : mI M (q + 1) 2 = ((a : Nat) : Int)) (a2 : a ≤ n) (p1 : mI M p 2 = ((L' : Nat) : Int)) (hLL : L ≤ L') (d1 : mI M (q + 1) 5 = 0) (c1 : mI M (q + 1) 6 = 0) (hix : ix ≤ 59) (br : mI M (q + 1) 3 = 0 → ∃ v s s' : Nat, mI M (p + 12) (cnt + 1) = ((v : Nat) : Int) ∧ mI M (p + 14) v = ((s : Nat) : Int) ∧ PC M O P V F ns ef L' s 1 ∧ mI M (p + 15) v = ((s' : Nat) : Int) ∧ PC M O P V F ns ef L' s' 0) : ((mI M (q + 1) 3 = 0) → (mK M p = 6 ∧ mK M (p + 12) = 30 ∧ ((0 : Int) ≤ (ix : Int) + 1 ∧ (ix : Int) + 1 < (mN M (p + 12) : Int)) ∧ ((0 : Int) ≤ (ix : Int) + 1 ∧ (ix : Int) + 1 < (mN M (p + 12) : Int)) ∧ i32 ((mI M (p + 12) (Int.toNat ((ix : Int) + 1))) + 1))) ∧ ∀ M120 : mM, M120 = (if (mI M (q + 1) 3 = 0) then (mUI M (p + 12) (Int.toNat ((ix : Int) + 1)) ((mI M (p + 12) (Int.toNat ((ix : Int) + 1))) + 1)) else M) → ∃ nbr', cmI M0 z q w T A B D N C n p O P K Ab Be Cm V F ns sf ef c cnt L' ix nbr' a M120 ∧ (mI M120 (q + 1) 3 = 0 → nbr' = nbr + 1) := by
  have ap := h.1.apart
  have qp := h.1.2.2.2.2.2.1.2.1
  have q12 : q + 1 ≠ p + 12 := by omega
  have p12 : p ≠ p + 12 := by omega
  clear ap qp
  obtain ⟨k6, -, ⟨-, -, -, -, -, -, -, -, -, kp12, -⟩, ⟨-, -, -, -, -, -, -, -, -, np12, -⟩⟩ := h.tab
  have e12 : Int.toNat ((ix : Int) + 1) = ix + 1 := by omega
  rw [np12, e12]
  refine ⟨fun y => ⟨k6, kp12, by omega, by omega, ?_⟩, fun M120 e120 => ?_⟩
  · obtain ⟨g1, g2, u, v, g3, g4, g5, g6, g7, -⟩ := cy y
    obtain ⟨u', g10, -, g11⟩ := g7.2.2.2.2.2.1
    have vb : v ≤ 480 := by
      rw [g3] at g10
      omega
    rw [g1, g4]
    exact ⟨by omega, by omega⟩
  · by_cases y : mI M (q + 1) 3 = 0
    · rw [if_pos y] at e120
      obtain ⟨v, s, s', b1, b2, b3, b4, b5⟩ := br y
      have g1 := (cy y).1
      rw [g1, b1] at e120
      obtain ⟨h2, cy2, fx, nb⟩ := tx_nb h cy y (n8 y) b1 b2 b3 b4 b5 hLL e120
      have nr := nb (q + 1) q12
      exact ⟨nbr + 1, ⟨f1.trans fx, h2, cy2, by rw [nr]; exact a1, a2, by rw [nb p p12]; exact p1, by rw [nr]; exact d1, by rw [nr]; exact c1, hix⟩, fun _ => rfl⟩
    · rw [if_neg y] at e120
      subst e120
      exact ⟨nbr, ⟨f1, h.any (fun u => absurd u y), fun u => absurd u y, a1, a2, p1, d1, c1, hix⟩, fun u => absurd u y⟩
end TRP
end
section
/-! The class's reader of texts: readCommand. -/
section TRQ
variable {G : mG} {d z q w T A B D N C n p O P K Ab Be Cm V F c s s' L L' cnt Bn a d0 V1 F1 nw k e s9 S0 wd ix nbr u v i Ab0 Be0 Cm0 Ab1 Be1 Cm1 : Nat} {M0 M M' M1 M2 : mM} {ns ns' ns1 : Nat → Int} {sf ef sf' ef' : Nat → Nat} {H H1 : Nat → Nat} {S R : Nat → Prop}
end TRQ
end
end
section
section
/-! The class's reader of texts: translate. -/
section TRR
variable {G : mG} {d z q w T A B D N C n p O P K Ab Be Cm V F c s s' L L' cnt Bn a d0 V1 F1 nw k e s9 S0 wd ix nbr u v i Ab0 Be0 Cm0 Ab1 Be1 Cm1 : Nat} {M0 M M' M1 M2 : mM} {ns ns' ns1 : Nat → Int} {sf ef sf' ef' : Nat → Nat} {H H1 : Nat → Nat} {S R : Nat → Prop}
/-- what translate comes to -/
def tlQ (M0 : mM) (z q w T A B D N C n p O P K Ab0 Be0 Cm0 : Nat) (x : Int) (M' : mM) : Prop := ∃ (Ab Be Cm V F : Nat) (ns : Nat → Int) (sf ef : Nat → Nat) (c cnt L : Nat), TX M' z q w T A B D N C n p O P K Ab Be Cm V F ns sf ef c cnt L ∧ trF M0 q p O P Ab0 Be0 Cm0 M' Ab Be Cm ∧ x = mI M' (q + 1) 3 ∧ (x = 0 → mI M' p 11 ≠ -1 ∧ mI M' p 2 = ((L : Nat) : Int) ∧ L ≤ n)
end TRR
end
section
/-! The class's reader of texts: translate, the whole. -/
section TRS
variable {G : mG} {d z q w T A B D N C n p O P K Ab Be Cm V F c s s' L L' cnt Bn a d0 V1 F1 nw k e s9 S0 wd ix nbr u v i Ab0 Be0 Cm0 Ab1 Be1 Cm1 : Nat} {M0 M M' M1 M2 : mM} {ns ns' ns1 : Nat → Int} {sf ef sf' ef' : Nat → Nat} {H H1 : Nat → Nat} {S R : Nat → Prop}
/-- the reader of texts at rest -/
def TZ (M : mM) (z q p O P K Ab Be Cm : Nat) : Prop := mOk M ∧ RK M (q + 1) ∧ (mK M q = 3 ∧ mR M q 0 = q + 1 ∧ mR M q 1 = q + 11 ∧ mR M q 5 = q + 21 ∧ mR M q 6 = q + 22) ∧ (mK M (q + 21) = 30 ∧ mK M (q + 22) = 30 ∧ mN M (q + 21) = 3 ∧ mN M (q + 22) = 3) ∧ MK M z (q + 11) (q + 12) Ab Be Cm ∧ PK M z p O P K ∧ (q + 23 ≤ z ∧ (q + 22 < p ∨ p + 15 < q)) ∧ (O ≠ Ab ∧ O ≠ Be ∧ P ≠ Ab ∧ P ≠ Be) ∧ (∀ j, mI M (q + 6) j = 0 ∨ mI M (q + 6) j = 1)
/-- the words lie apart from it -/
def TZw (M : mM) (q w T A B D p O P Ab Be : Nat) : Prop := ∀ x, (x = w ∨ x = T ∨ x = A ∨ x = B ∨ x = D) → ¬ (q ≤ x ∧ x ≤ q + 22) ∧ ¬ (p ≤ x ∧ x ≤ p + 15) ∧ x ≠ O ∧ x ≠ P ∧ x ≠ Ab ∧ x ≠ Be ∧ x < mZ M
def tzS (q p O P Ab Be : Nat) : Nat → Prop := fun x => (q ≤ x ∧ x ≤ q + 22) ∨ (p ≤ x ∧ x ≤ p + 15) ∨ x = O ∨ x = P ∨ x = Ab ∨ x = Be
def tzR (q p : Nat) : Nat → Prop := fun x => x = q ∨ x = q + 1 ∨ x = q + 11 ∨ x = p
/-- what translate comes to -/
def tzQ (M0 : mM) (z q w T A B D N C n p O0 P0 K0 Ab0 Be0 Cm0 : Nat) (x : Int) (M' : mM) : Prop := ∃ (O P K Ab Be Cm V F : Nat) (ns : Nat → Int) (sf ef : Nat → Nat) (c cnt L : Nat), TX M' z q w T A B D N C n p O P K Ab Be Cm V F ns sf ef c cnt L ∧ FA (tzS q p O0 P0 Ab0 Be0) (tzR q p) M0 M' ∧ (((O = O0 ∧ P = P0) ∨ (mZ M0 ≤ O ∧ mZ M0 ≤ P)) ∧ (Ab = Ab0 ∨ mZ M0 ≤ Ab) ∧ (Be = Be0 ∨ mZ M0 ≤ Be)) ∧ (mS M' + 4 * Cm0 + 4 * K0 ≤ mS M0 + 4 * Cm + 4 * K ∧ 64 * mZ M' + 2 * Cm0 + K0 ≤ 64 * mZ M0 + 2 * Cm + K) ∧ x = mI M' (q + 1) 3 ∧ (x = 0 → mI M' p 11 ≠ -1 ∧ mI M' p 2 = ((L : Nat) : Int) ∧ L ≤ n)
theorem RK.eq2 {r : Nat} (h : RK M r) (v : ∀ i, i ≤ 9 → mK M' (r + i) = mK M (r + i) ∧ mN M' (r + i) = mN M (r + i)) (hr : ∀ i, 8 ≤ i → mR M' r i = mR M r i) : RK M' r := by
  unfold RK at h ⊢
  have v0 := v 0 (by omega)
  rw [Nat.add_zero] at v0
  rw [v0.1, (v 1 (by omega)).1, (v 2 (by omega)).1, (v 3 (by omega)).1, (v 4 (by omega)).1, (v 5 (by omega)).1, (v 6 (by omega)).1, (v 7 (by omega)).1, (v 8 (by omega)).1, (v 9 (by omega)).1, (v 1 (by omega)).2, (v 2 (by omega)).2, (v 3 (by omega)).2, (v 4 (by omega)).2, (v 5 (by omega)).2, (v 6 (by omega)).2, (v 7 (by omega)).2, (v 8 (by omega)).2, (v 9 (by omega)).2, hr 8 (by omega), hr 9 (by omega), hr 10 (by omega), hr 11 (by omega), hr 13 (by omega), hr 15 (by omega), hr 16 (by omega), hr 17 (by omega), hr 18 (by omega)]
  exact h
theorem MK.eq2 {m U : Nat} (h : MK M z m U Ab Be Cm) (hc : ∀ x, x < mZ M → mK M' x = mK M x ∧ mN M' x = mN M x) (hr : ∀ i, 3 ≤ i → mR M' m i = mR M m i) (h4 : mI M' m 4 = mI M m 4) (hz : mZ M ≤ mZ M') : MK M' z m U Ab Be Cm := by
  obtain ⟨e1, e2, e3, e4, e5, ⟨e61, e62, e63, e64⟩, ⟨e7, e8, e9, e10⟩, e11⟩ := h
  have v : ∀ i, i ≤ 9 → mK M' (m + i) = mK M (m + i) ∧ mN M' (m + i) = mN M (m + i) := fun i hi => hc _ (by omega)
  have v0 := v 0 (by omega)
  rw [Nat.add_zero] at v0
  unfold MK
  rw [v0.1, (v 2 (by omega)).1, (v 5 (by omega)).1, (v 6 (by omega)).1, (v 7 (by omega)).1, (v 8 (by omega)).1, (v 9 (by omega)).1, (v 2 (by omega)).2, (v 5 (by omega)).2, (v 6 (by omega)).2, (v 7 (by omega)).2, (v 8 (by omega)).2, (v 9 (by omega)).2, (hc U e10).1, (hc U e10).2, (hc Ab e8).1, (hc Ab e8).2, (hc Be e9).1, (hc Be e9).2, hr 3 (by omega), hr 5 (by omega), hr 6 (by omega), hr 7 (by omega), hr 10 (by omega), hr 11 (by omega), hr 12 (by omega), hr 13 (by omega), hr 14 (by omega), h4]
  exact ⟨e1, e2, e3, e4, e5, ⟨e61, e62, e63, e64⟩, ⟨by omega, by omega, by omega, by omega⟩, e11⟩
theorem tz1 {q p z : Nat} (s1 : q + 23 ≤ z) (s2 : q + 22 < p ∨ p + 15 < q) : q + 1 + 9 < z ∧ (q + 1 + 9 < p ∨ p + 15 < q + 1) := by omega
theorem tz2 {q x : Nat} (y1 : q + 1 ≤ x) (y2 : x ≤ q + 1 + 9) : q ≤ x ∧ x ≤ q + 22 := by omega
theorem tz3 {q p O P O' P' Ab Be x Z : Nat} (hx : x < Z) (hOP : (O' = O ∧ P' = P) ∨ (Z ≤ O' ∧ Z ≤ P')) (y : trS q p O' P' Ab Be x) : tzS q p O P Ab Be x := by
  show (q ≤ x ∧ x ≤ q + 22) ∨ (p ≤ x ∧ x ≤ p + 15) ∨ x = O ∨ x = P ∨ x = Ab ∨ x = Be
  rcases y with y | y
  · rcases y with y | y | y | y | y | y | y
    · omega
    · omega
    · omega
    · omega
    · omega
    · omega
    · omega
  · rcases y with y | y | y | y | y
    · omega
    · omega
    · omega
    · omega
    · omega
theorem tz4 {q p O P Ab Be x : Nat} (y : x = p ∨ x = p + 12 ∨ x = q + 1) : tzS q p O P Ab Be x := by
  show (q ≤ x ∧ x ≤ q + 22) ∨ (p ≤ x ∧ x ≤ p + 15) ∨ x = O ∨ x = P ∨ x = Ab ∨ x = Be
  omega
/-- the start: cells of the reader after begin -/
theorem tz_start {O' P' K' : Nat} (h : TZ M z q p O P K Ab Be Cm) (hw : TZw M q w T A B D p O P Ab Be) (hW : Wf M w T A B D N C n) (ok : mOk M') (f : FA (fun x => x = p ∨ x = p + 12 ∨ x = q + 1) (tzR q p) M M') (pk : PK M' z p O' P' K') (nK : n + 1 ≤ K') (hOP : (O' = O ∧ P' = P) ∨ (mZ M ≤ O' ∧ mZ M ≤ P')) (rr : ∀ i, mR M' (q + 1) i = if i = 1 then p else if i = 0 then w else mR M (q + 1) i) (rq : ∀ i, mR M' q i = if i = 2 then p else mR M q i) (rm : ∀ i, mR M' (q + 11) i = if i = 0 then p else mR M (q + 11) i) (ip : mI M' p 2 = 0 ∧ mI M' p 3 = 0 ∧ mI M' p 7 = 0 ∧ mI M' p 12 = 0 ∧ mI M' p 11 = -1) (i12 : mI M' (p + 12) 0 = 0) (ir : mI M' (q + 1) 2 = 0 ∧ mI M' (q + 1) 3 = 0 ∧ mI M' (q + 1) 5 = 0 ∧ mI M' (q + 1) 19 = 0) : TX M' z q w T A B D N C n p O' P' K' Ab Be Cm 0 0 (fun _ => 0) (fun _ => 0) (fun _ => 0) 0 0 0 := by
  obtain ⟨h1, h2, ⟨q0, q1, q2, q5, q6⟩, h4, h5, h6, ⟨s1, s2⟩, s3, h9⟩ := h
  have zz := f.1.1
  obtain ⟨z0, zA, zB, zU⟩ := h5.2.2.2.2.2.2.1
  obtain ⟨sA, sB, sne, sz⟩ := h5.2.2.2.2.2.1
  obtain ⟨-, -, -, ⟨o1, o2, o3, o4⟩, ⟨pz0, pz1, pz2⟩, -⟩ := id h6
  have bq : ∀ i, i ≤ 22 → q + i < mZ M := fun i hi => by omega
  have bq0 : q < mZ M := by omega
  have nq : ∀ i, i ≤ 22 → q + i ≠ p ∧ q + i ≠ p + 12 := fun i hi => by omega
  have cell : ∀ x, x < mZ M → mK M' x = mK M x ∧ mN M' x = mN M x := fun x hx => ⟨(f.2 x hx).1, (f.2 x hx).2.1⟩
  have iI : ∀ x, x < mZ M → x ≠ p → x ≠ p + 12 → x ≠ q + 1 → mI M' x = mI M x := fun x hx b1 b2 b3 => (f.2 x hx).2.2.2.2 (fun y => y.elim b1 (fun y => y.elim b2 b3))
  have sw : ∀ x, (x = w ∨ x = T ∨ x = A ∨ x = B ∨ x = D) → sm4 M M' x := fun x hx => by
    obtain ⟨u1, u2, u3, u4, u5, u6, u7⟩ := hw x hx
    clear hw hW h5 h6 pk rr rq rm hOP o1 o2 sA sB s2 s3 nq bq
    refine ⟨(cell x u7).1, (cell x u7).2, (f.2 x u7).2.2.2.1 (fun y => ?_), iI x u7 (by omega) (by omega) (by omega)⟩
    have y' : x = q ∨ x = q + 1 ∨ x = q + 11 ∨ x = p := y
    omega
  have rk : RK M' (q + 1) := h2.eq2 (fun i hi => cell _ (by rw [show q + 1 + i = q + (1 + i) by first | rfl | omega]; exact bq _ (by omega))) (fun i hi => by rw [rr, if_neg (by omega), if_neg (by omega)])
  have mk : MK M' z (q + 11) (q + 12) Ab Be Cm := h5.eq2 cell (fun i hi => by rw [rm, if_neg (by omega)]) (by rw [iI (q + 11) (bq 11 (by omega)) (nq 11 (by omega)).1 (nq 11 (by omega)).2 (by omega)]) zz
  have sO : (O' ≠ Ab ∧ O' ≠ Be ∧ P' ≠ Ab ∧ P' ≠ Be) := by
    rcases hOP with ⟨e1, e2⟩ | ⟨e1, e2⟩
    · rw [e1, e2]; exact s3
    · exact ⟨fun u => absurd zA (Nat.not_lt.mpr (by rw [← u]; exact e1)), fun u => absurd zB (Nat.not_lt.mpr (by rw [← u]; exact e1)), fun u => absurd zA (Nat.not_lt.mpr (by rw [← u]; exact e2)), fun u => absurd zB (Nat.not_lt.mpr (by rw [← u]; exact e2))⟩
  have sX := tz1 s1 s2
  refine ⟨⟨⟨ok, rk, ⟨by rw [rr 0]; rfl, by rw [rr 1]; rfl⟩, hW.eq sw, pk, ⟨sX.1, sX.2, fun x hx => ?_⟩, nK⟩, ⟨by rw [(cell q bq0).1]; exact q0, by rw [rq 0]; exact q1, by rw [rq 1]; exact q2, by rw [rq 2]; rfl, by rw [rq 5]; exact q5, by rw [rq 6]; exact q6⟩, by rw [(cell (q + 21) (bq 21 (by decide))).1, (cell (q + 22) (bq 22 (by decide))).1, (cell (q + 21) (bq 21 (by decide))).2, (cell (q + 22) (bq 22 (by decide))).2]; exact h4, mk, by rw [rm 0]; rfl, ⟨s1, s2, fun x hx => ?_⟩, sO⟩, ⟨⟨ip.2.1, Nat.zero_le _⟩, ⟨ip.2.2.1, Nat.zero_le _⟩, ⟨ir.2.2.2, Nat.zero_le _, fun i hi => absurd hi (Nat.not_lt_zero _)⟩, fun j => by rw [iI (q + 6) (bq 6 (by decide)) (nq 6 (by decide)).1 (nq 6 (by decide)).2 (by omega)]; exact h9 j⟩, ⟨ip.2.2.2.1, Nat.zero_le _⟩, fun _ => ⟨0, i12, fun x hx => absurd hx (Nat.not_lt_zero _), Or.inl ip.2.2.2.2, fun j hj => absurd hj (Nat.not_lt_zero _), i12, fun j hj => absurd hj (Nat.not_lt_zero _), ⟨0, i12, Nat.le_refl _, Nat.zero_le _⟩, fun b hb => absurd hb (Nat.not_lt_zero _)⟩⟩
  · obtain ⟨u1, u2, u3, u4, u5, u6, u7⟩ := hw x hx
    intro y
    rcases y with ⟨y1, y2⟩ | y | y | y
    · exact u1 (tz2 y1 y2)
    · exact u2 y
    · rcases hOP with ⟨e1, -⟩ | ⟨e1, -⟩
      · exact u3 (y.trans e1)
      · exact absurd u7 (Nat.not_lt.mpr (by rw [y]; exact e1))
    · rcases hOP with ⟨-, e1⟩ | ⟨-, e1⟩
      · exact u4 (y.trans e1)
      · exact absurd u7 (Nat.not_lt.mpr (by rw [y]; exact e1))
  · obtain ⟨u1, u2, u3, u4, u5, u6, u7⟩ := hw x hx
    exact ⟨u1, u5, u6, Nat.lt_of_lt_of_le u7 zz⟩
theorem hmono_41 {l3 : Int} {Q Q' : Int → mM → Prop} (h : h_TR_translate_41 G d q w l3 M Q) (hq : ∀ x M', Q x M' → Q' x M') : h_TR_translate_41 G d q w l3 M Q' := by
  unfold h_TR_translate_41 at h ⊢
  exact mWm.mono h (fun r M' k => by
    obtain ⟨x, e, t⟩ := k
    exact ⟨x, e, hq x M' t⟩)
end TRS
end
end
