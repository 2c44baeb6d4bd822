/-! The class's reader: signs, '?', ':' and what closes, over its piles in memory. -/
section RZ
variable {u : Ru} {M M' : mM} {r O P s c c' L a m x k kk : Nat} {gs t : List gqq} {od mq kn kn' : List Int} {ft ft' : Int × Int} {o d v : Int}
/-- how strong the operand behind the latest operation may be -/
def hrs (u : Ru) (M : mM) (r : Nat) (y : Nat) : Prop := (mI M r 12 = 0 ∧ uQ u = y) ∨ ∃ j : Nat, mI M r 12 = (j : Int) + 1 ∧ rsq (mI M (r + 1) j) = y
theorem RWc.rsl (h : RWc u M r gs od mq kn ft) : hrs u M r (rsl (uQ u) (ops gs)) := by
  cases gs with
  | nil => exact Or.inl ⟨h.kl, rfl⟩
  | cons g t =>
    obtain ⟨o, m, x⟩ := g
    have hkl : mI M r 12 = ((t.length + 1 : Nat) : Int) := h.kl
    have hop : mI M (r + 1) t.length = o := by have := h.1.1.1; rw [List.length_map] at this; exact this
    exact Or.inr ⟨t.length, by omega, by rw [hop]; rfl⟩
theorem hrs.eq {y y' : Nat} (h : hrs u M r y) (h' : hrs u M r y') : y = y' := by
  rcases h with ⟨h1, h2⟩ | ⟨j, h1, h2⟩ <;> rcases h' with ⟨g1, g2⟩ | ⟨i, g1, g2⟩
  · omega
  · omega
  · omega
  · have : i = j := by omega
    rw [this] at g2
    omega
theorem cst_x {o : Int} (ho : 19 ≤ o ∧ o ≤ 31) : cst o = lwx (o - 1) := by
  unfold cst lwx
  (repeat' split) <;> omega
/-- a sign between two operands, without an order -/
theorem RW0.sbin {y : Nat} (h : RW0 u M r O P s c c' L a) (ho : 19 ≤ o ∧ o ≤ 29) (hw : ruW u a = o - 1) (hc : c ≤ lsq o) (hm : c' < lwx (ruW u a)) (hy : hrs u M r y) (hr : lwx (ruW u a) ≤ y) (hk : mI M r 12 = k) (h12 : mI M' r 12 = (k : Int) + 1) (h5 : mI M' r 5 = mI M r 5) (h3 : mI M' r 3 = mI M r 3) (h4 : mI M' r 4 = mI M r 4) (h14 : mI M' r 14 = mI M r 14) (t1 : ∀ i, mI M' (r + 1) i = if i = k then o else mI M (r + 1) i) (t2 : ∀ i, mI M' (r + 2) i = if i = k then uP u a else mI M (r + 2) i) (t3 : ∀ i, mI M' (r + 3) i = if i = k then -1 else mI M (r + 3) i) (t4 : ∀ i, mI M' (r + 4) i = if i = k then 0 else mI M (r + 4) i) (t5 : mI M' (r + 5) = mI M (r + 5)) (hO : mI M' O = mI M O) (hP : mI M' P = mI M P) : RW1 u M' r O P s L (a + 1) := by
  obtain ⟨gs, od, mq, kn, ft, q1, q2, q3⟩ := h
  have hl : k = gs.length := by have := q1.kl; omega
  subst hl
  have er := hy.eq q1.rsl
  subst er
  have hcs : cst o = lwx (ruW u a) := by rw [hw]; exact cst_x (by omega)
  refine ⟨(o, a, a + 1) :: gs, -1 :: od, 0 :: mq, kn, ft, q1.push (by rw [h12, hk]) t1 t2 t3 t4 (by rw [t5]; exact q1.1.2.2.2.2) (by rw [h14]; exact q1.2.1.2) (q1.2.2.2.1.same h3 h4) (by rw [h5, cdq0 (by omega)]; omega) (by unfold opq; omega) (by rw [hcs]; exact hr), ?_, rfl, ?_⟩
  · rw [hO, hP]
    exact q2.sbin ho hw hc
  · have l5 : lwx (ruW u a) ≤ 5 := by rw [hw]; unfold lwx; (repeat' split) <;> omega
    have e := sim_sign (z := uZ u) (x := o - 1) q1.q6 hw (by rw [← hw]; omega) (by rw [← hw]; exact l5) (by rw [← hw]; exact hm) (by rw [← hw]; exact hr)
    rw [show o - 1 + 1 = o by omega] at e
    exact q3.trans e
/-- '&', '|' -/
theorem RW0.sjmp {y : Nat} (h : RW0 u M r O P s c c' L a) (ho : o = 30 ∨ o = 31) (hw : ruW u a = o - 1) (hc : c ≤ lsq o) (hm : c' < lwx (ruW u a)) (hy : hrs u M r y) (hr : lwx (ruW u a) ≤ y) (hk : mI M r 12 = k) (h12 : mI M' r 12 = (k : Int) + 1) (h5 : mI M' r 5 = mI M r 5) (h3 : mI M' r 3 = mI M r 3) (h4 : mI M' r 4 = mI M r 4) (h14 : mI M' r 14 = mI M r 14) (t1 : ∀ i, mI M' (r + 1) i = if i = k then o else mI M (r + 1) i) (t2 : ∀ i, mI M' (r + 2) i = if i = k then uP u a else mI M (r + 2) i) (t3 : ∀ i, mI M' (r + 3) i = if i = k then (L : Int) else mI M (r + 3) i) (t4 : ∀ i, mI M' (r + 4) i = if i = k then 0 else mI M (r + 4) i) (t5 : mI M' (r + 5) = mI M (r + 5)) (hO : ∀ i, mI M' O i = if i = L then o else mI M O i) (hP : ∀ i, i < L → mI M' P i = mI M P i) : RW1 u M' r O P s (L + 1) (a + 1) := by
  obtain ⟨gs, od, mq, kn, ft, q1, q2, q3⟩ := h
  have hl : k = gs.length := by have := q1.kl; omega
  subst hl
  have er := hy.eq q1.rsl
  subst er
  have hcs : cst o = lwx (ruW u a) := by rw [hw]; exact cst_x (by omega)
  refine ⟨(o, a, a + 1) :: gs, (L : Int) :: od, 0 :: mq, kn, ft, q1.push (by rw [h12, hk]) t1 t2 t3 t4 (by rw [t5]; exact q1.1.2.2.2.2) (by rw [h14]; exact q1.2.1.2) (q1.2.2.2.1.same h3 h4) (by rw [h5, cdq0 (by omega)]; omega) (by unfold opq; omega) (by rw [hcs]; exact hr), q2.sjmp ho hw hc (fun i hi => ⟨by rw [hO, if_neg (by omega)], hP i hi⟩) (by rw [hO, if_pos rfl]), rfl, ?_⟩
  have l5 : lwx (ruW u a) ≤ 5 := by rw [hw]; unfold lwx; (repeat' split) <;> omega
  have e := sim_sign (z := uZ u) (x := o - 1) q1.q6 hw (by rw [← hw]; omega) (by rw [← hw]; exact l5) (by rw [← hw]; exact hm) (by rw [← hw]; exact hr)
  rw [show o - 1 + 1 = o by omega] at e
  exact q3.trans e
/-- a second comparison -/
theorem RW0.dead (h : RW0 u M r O P s c c' L a) (hx : lwx (ruW u a) = 3) (hz : Rf (ruW u) (uZ u) a a) (hk : mI M r 12 = (k : Int) + 1) (ho : 19 ≤ mI M (r + 1) k ∧ mI M (r + 1) k ≤ 24) (hm : c' ≤ 2) : Rf (ruW u) (uS u) (uK u) a := by
  obtain ⟨m, x, t, od, mq, kn, ft, e, q1, q2, q3⟩ := h.cases hk rfl
  generalize mI M (r + 1) k = o at *
  have hwo : woq (uQ u) (o :: ops t) := q1.wo
  have h2 : rsq o = 2 := by unfold rsq; rw [if_neg (by omega), if_neg (by omega), if_pos ho]
  have h3 : cst o = 3 := by unfold cst; rw [if_neg (by omega), if_neg (by omega), if_pos (Or.inl ho)]
  have hp : pst o = 3 := by unfold pst; rw [if_neg (by omega)]; exact h3
  have s1 := sim_pop (w := ruW u) (k := a) (z := uZ u) (c := c') q1.q6 hwo (Or.inl (by omega)) (Or.inr (by rw [h2, hx]; omega))
  rw [hp] at s1
  have h33 : 3 ≤ rsl (uQ u) (ops t) := by have := hwo.2.1; rw [h3] at this; exact this
  exact (q3.trans s1).rf (sim_dead q1.q6 hx hz hwo.2.2 (by omega) h33)
/-- '?' -/
theorem RW0.ask (h : RW0 u M r O P s c c' L a) (hw : ruW u a = 32) (hc : c ≤ 5) (hm : c' ≤ 5) (hy : hrs u M r 6) (hlt : mI M r 5 < 40) (hk : mI M r 12 = k) (hkk : mI M r 14 = (kk : Int) + 1) (h12 : mI M' r 12 = (k : Int) + 1) (h5 : mI M' r 5 = mI M r 5 + 1) (h3 : mI M' r 3 = mI M r 3) (h4 : mI M' r 4 = mI M r 4) (h14 : mI M' r 14 = kk) (t1 : ∀ i, mI M' (r + 1) i = if i = k then 33 else mI M (r + 1) i) (t2 : ∀ i, mI M' (r + 2) i = if i = k then uP u a else mI M (r + 2) i) (t3 : ∀ i, mI M' (r + 3) i = if i = k then (L : Int) else mI M (r + 3) i) (t4 : ∀ i, mI M' (r + 4) i = if i = k then (if mI M (r + 5) kk = 1 then 0 else 1) else mI M (r + 4) i) (t5 : ∀ i, i < kk → mI M' (r + 5) i = mI M (r + 5) i) (hO : ∀ i, mI M' O i = if i = L then 33 else mI M O i) (hP : ∀ i, i < L → mI M' P i = mI M P i) : RW1 u M' r O P s (L + 1) (a + 1) := by
  obtain ⟨gs, od, mq, kn, ft, q1, q2, q3⟩ := h
  have hl : k = gs.length := by have := q1.kl; omega
  subst hl
  have er := hy.eq q1.rsl
  obtain ⟨last, kn', e1, e2, g⟩ := q2.sask (O' := mI M' O) (P' := mI M' P) hw hc (fun i hi => ⟨by rw [hO, if_neg (by omega)], hP i hi⟩) (by rw [hO, if_pos rfl])
  subst e1
  obtain ⟨k1, k2⟩ := q1.kn1
  have hkl : kk = kn'.length := by have : mI M r 14 = ((kn'.length + 1 : Nat) : Int) := q1.2.1.2; omega
  subst hkl
  rw [k1] at t4
  have hd : slv (uZ u) + lvs (ops gs) < 40 := by rw [← q1.dp]; exact hlt
  exact ⟨(33, a, a + 1) :: gs, (L : Int) :: od, _ :: mq, kn', ft, q1.push (by rw [h12, hk]) t1 t2 t3 t4 (k2.cg t5) h14 (q1.2.2.2.1.same h3 h4) (by rw [h5]; rfl) (by unfold opq; omega) (by rw [← er]; exact cst_le 33), g, rfl, q3.trans (sim_ask q1.q6 q1.wo er.symm hw hm hd)⟩
theorem RW0.ask_no (h : RW0 u M r O P s c c' L a) (hw : ruW u a = 32) (hm : c' ≤ 5) (hy : hrs u M r 6) (hlt : ¬ mI M r 5 < 40) : Rf (ruW u) (uS u) (uK u) a := by
  obtain ⟨gs, od, mq, kn, ft, q1, q2, q3⟩ := h
  have er := hy.eq q1.rsl
  rw [q1.dp] at hlt
  exact q3.rf (sim_ask_no q1.q6 q1.wo er.symm hw hm hlt)
/-- the rule is over -/
theorem RW0.over (h : RW0 u M r O P s c c' L a) (hk : mI M r 12 = 0) (hm : lwx (ruW u a) ≤ c' ∨ uQ u < lwx (ruW u a)) : Eo (ruW u) c (ruI u) a ∧ mI M (r + 5) 0 = kdq (ruW u) (uE u) 0 (ruI u) a ∧ FT M r (fst9 (uF u) (fl (ruW u) (uE u) (uP u) 0 (ruI u) a)) ∧ Cd (ruW u) (uC u) (uP u) (mI M O) (mI M P) 0 0 0 (ruI u) a s L ∧ mI M r 5 = slv (uZ u) ∧ Rc (ruW u) (uS u) (uK u) (uZ u) a := by
  obtain ⟨gs, od, mq, kn, ft, q1, q2, q3⟩ := h
  cases gs with
  | cons g t => have := q1.kl; rw [hk] at this; have e : ((t.length + 1 : Nat) : Int) = 0 := this.symm; omega
  | nil =>
    obtain ⟨a1, a2, a3, a4⟩ := q2.done
    subst a2 a3
    have dd := q1.dp
    refine ⟨a1, q1.1.2.2.2.2.1, q1.2.2.2.1, a4, ?_, q3.trans (sim_end q1.q6 hm)⟩
    rw [dd]
    show slv (uZ u) + ((0 : Nat) : Int) = _
    omega
/-- ')' behind '(' -/
theorem RW0.par (h : RW0 u M r O P s c c' L a) (hw : ruW u a = 37) (hc : c ≤ 6) (hk : mI M r 12 = (k : Int) + 1) (ho : mI M (r + 1) k = 37) (h12 : mI M' r 12 = k) (h5 : mI M' r 5 = mI M r 5 - 1) (h3 : mI M' r 3 = mI M r 3) (h4 : mI M' r 4 = mI M r 4) (h14 : mI M' r 14 = mI M r 14) (hT : ∀ i, 1 ≤ i → i ≤ 4 → mI M' (r + i) = mI M (r + i)) (t5 : mI M' (r + 5) = mI M (r + 5)) (hO : mI M' O = mI M O) (hP : mI M' P = mI M P) : RW0 u M' r O P s 0 0 L (a + 1) := by
  obtain ⟨m, x, t, od, mq, kn, ft, e, q1, q2, q3⟩ := h.cases hk ho
  subst e
  obtain ⟨od', mq', e1, e2, g⟩ := q2.cpar hc hw
  subst e1 e2
  have hl0 : lwx (ruW u a) = 0 := by rw [hw]; decide
  refine ⟨t, od', mq', kn, ft, q1.pop (by rw [h12, hk]; omega) (fun i i1 i4 j _ => by rw [hT i i1 i4]) (by rw [t5]; exact q1.1.2.2.2.2) (by rw [h14]; exact q1.2.1.2) (q1.2.2.2.1.same h3 h4) (by rw [h5]; rfl), by rw [hO, hP]; exact g, (q3.trans (sim_end (os := 37 :: ops t) q1.q6 (Or.inl (by omega)))).trans (sim_close (Or.inl rfl) hw)⟩
/-- what a list keeps in mind -/
theorem bit_k {k9 last : Int} (hk : k9 = 0 ∨ k9 = 2 ∨ k9 = 3) (hl : last = 0 ∨ last = 1) : (k9 = 3 ∨ last = 1) ↔ (k9 = 1 ∨ k9 = 3 ∨ last = 1) := by omega
/-- ')' behind a list -/
theorem RW0.clos {L' : Nat} (h : RW0 u M r O P s c c' L a) (hw : ruW u a = 37) (hc : c ≤ 6) (hk : mI M r 12 = (k : Int) + 1) (ho : mI M (r + 1) k = o) (ho2 : o = 15 ∨ o = 16) (hkk : mI M r 14 = (kk : Int) + 1) (h12 : mI M' r 12 = k) (h5 : mI M' r 5 = mI M r 5 - 1) (h14 : mI M' r 14 = (kk : Int) + 1) (hT : ∀ i, 1 ≤ i → i ≤ 4 → ∀ j, j < k → mI M' (r + i) j = mI M (r + i) j) (t5 : ∀ i : Nat, mI M' (r + 5) i = if i = kk then 0 else mI M (r + 5) i) (hF : Fqq M r (kft (¬ (mI M (r + 4) k = 3 ∨ mI M (r + 5) kk = 1)) (mI M (r + 2) k)) M') (h0 : mI M (r + 4) k = 0 → L' = L ∧ mI M' O = mI M O ∧ mI M' P = mI M P) (h1 : mI M (r + 4) k ≠ 0 → L' = L + 1 ∧ (∀ i, mI M' O i = if i = L then o else mI M O i) ∧ (∀ i, mI M' P i = if i = L then mI M (r + 2) k else mI M P i)) : RW0 u M' r O P s 0 0 L' (a + 1) := by
  obtain ⟨m, x, t, od, mq, kn, ft, e, q1, q2, q3⟩ := h.cases hk ho
  subst e
  obtain ⟨od', k9, mq', last, kn', e1, e2, e3, hl, g⟩ := q2.clos ho2 hc hw
  subst e1 e2 e3
  obtain ⟨-, p2, -, p4, -⟩ := q1.hd
  obtain ⟨k1, k2⟩ := q1.kn1
  have hkl : kk = kn'.length := by have : mI M r 14 = ((kn'.length + 1 : Nat) : Int) := q1.2.1.2; omega
  subst hkl
  rw [p2, p4, k1] at hF
  rw [p4] at h0 h1
  rw [p2] at h1
  have hl0 : lwx (ruW u a) = 0 := by rw [hw]; decide
  refine ⟨t, od', mq', _, _, q1.pop (by rw [h12, hk]; omega) (fun i i1 i4 j hj => hT i i1 i4 j hj) (k2.put t5) (by rw [h14]; rfl) (hF ft q1.2.2.2.1) (by rw [h5]; rcases ho2 with e | e <;> subst e <;> rfl), g _ _ L' (fun i hi => ?_) (fun q => (h0 q).1) (fun q => ⟨(h1 q).1, by rw [(h1 q).2.1, if_pos rfl], by rw [(h1 q).2.2, if_pos rfl]⟩), (q3.trans (sim_end (os := o :: ops t) q1.q6 (Or.inl (by omega)))).trans (sim_close (Or.inr ho2) hw)⟩
  by_cases z : k9 = 0
  · rw [(h0 z).2.1, (h0 z).2.2]; exact ⟨rfl, rfl⟩
  · exact ⟨by rw [(h1 z).2.1, if_neg (by omega)], by rw [(h1 z).2.2, if_neg (by omega)]⟩
/-- ',' in a list -/
theorem RW0.comma {L' : Nat} (h : RW0 u M r O P s c c' L a) (hw : ruW u a = 35) (hc : c ≤ 6) (hk : mI M r 12 = (k : Int) + 1) (ho : mI M (r + 1) k = o) (ho2 : o = 15 ∨ o = 16) (hkk : mI M r 14 = (kk : Int) + 1) (h12 : mI M' r 12 = (k : Int) + 1) (h5 : mI M' r 5 = mI M r 5) (h3 : mI M' r 3 = mI M r 3) (h4 : mI M' r 4 = mI M r 4) (h14 : mI M' r 14 = kk) (hT : ∀ i, 1 ≤ i → i ≤ 3 → mI M' (r + i) = mI M (r + i)) (t4 : ∀ i, mI M' (r + 4) i = if i = k then (if mI M (r + 4) k = 3 ∨ mI M (r + 5) kk = 1 then 3 else 2) else mI M (r + 4) i) (t5 : ∀ i, i < kk → mI M' (r + 5) i = mI M (r + 5) i) (h0 : mI M (r + 4) k = 0 → L' = L ∧ mI M' O = mI M O ∧ mI M' P = mI M P) (h1 : mI M (r + 4) k ≠ 0 → L' = L + 1 ∧ (∀ i, mI M' O i = if i = L then o else mI M O i) ∧ (∀ i, mI M' P i = if i = L then mI M (r + 2) k else mI M P i)) : RW1 u M' r O P s L' (a + 1) := by
  obtain ⟨m, x, t, od, mq, kn, ft, e, q1, q2, q3⟩ := h.cases hk ho
  subst e
  obtain ⟨od', k9, mq', last, kn', e1, e2, e3, hl, g⟩ := q2.comma ho2 hc hw
  subst e1 e2 e3
  obtain ⟨p1, p2, p3, p4, -⟩ := q1.hd
  obtain ⟨k1, k2⟩ := q1.kn1
  have hkl : kk = kn'.length := by have : mI M r 14 = ((kn'.length + 1 : Nat) : Int) := q1.2.1.2; omega
  subst hkl
  rw [p4, k1] at t4
  rw [p4] at h0 h1
  rw [p2] at h1
  have hl0 : lwx (ruW u a) = 0 := by rw [hw]; decide
  refine ⟨(o, m, a + 1) :: t, -1 :: od', _ :: mq', kn', ft, q1.top (o' := o) (d' := -1) (x' := a + 1) (by rw [h12, hk]) (fun i => ?_) (fun i => by rw [hT 2 (by omega) (by omega)]) (fun i => ?_) t4 (k2.cg t5) h14 (q1.2.2.2.1.same h3 h4) h5 q1.wo.1 rfl rfl, g _ _ L' (fun i hi => ?_) (fun q => (h0 q).1) (fun q => ⟨(h1 q).1, by rw [(h1 q).2.1, if_pos rfl], by rw [(h1 q).2.2, if_pos rfl]⟩), rfl, (q3.trans (sim_end (os := o :: ops t) q1.q6 (Or.inl (by omega)))).trans (sim_comma ho2 hw)⟩
  · rw [hT 1 (by omega) (by omega)]
    split
    · rename_i y; rw [y]; exact p1
    · rfl
  · rw [hT 3 (by omega) (by omega)]
    split
    · rename_i y; rw [y]; exact p3
    · rfl
  · by_cases z : k9 = 0
    · rw [(h0 z).2.1, (h0 z).2.2]; exact ⟨rfl, rfl⟩
    · exact ⟨by rw [(h1 z).2.1, if_neg (by omega)], by rw [(h1 z).2.2, if_neg (by omega)]⟩
/-- ':' behind '?' -/
theorem RW0.colon {dd : Nat} (h : RW0 u M r O P s c c' L a) (hw : ruW u a = 33) (hc : c ≤ 6) (hk : mI M r 12 = (k : Int) + 1) (ho : mI M (r + 1) k = 33) (hkk : mI M r 14 = (kk : Int) + 1) (hd : mI M (r + 3) k = dd) (h12 : mI M' r 12 = (k : Int) + 1) (h5 : mI M' r 5 = mI M r 5) (h3 : mI M' r 3 = mI M r 3) (h4 : mI M' r 4 = mI M r 4) (h14 : mI M' r 14 = kk) (t1 : ∀ i, mI M' (r + 1) i = if i = k then 42 else mI M (r + 1) i) (t2 : mI M' (r + 2) = mI M (r + 2)) (t3 : ∀ i, mI M' (r + 3) i = if i = k then (L : Int) else mI M (r + 3) i) (t4 : ∀ i, mI M' (r + 4) i = if i = k then mI M (r + 4) k + (if mI M (r + 5) kk = 1 then 4 else 0) else mI M (r + 4) i) (t5 : ∀ i, i < kk → mI M' (r + 5) i = mI M (r + 5) i) (hO : ∀ i, mI M' O i = if i = L then 42 else mI M O i) (hP : ∀ i, i < L → mI M' P i = if i = dd then (L : Int) + 1 else mI M P i) : RW1 u M' r O P s (L + 1) (a + 1) := by
  obtain ⟨m, x, t, od, mq, kn, ft, e, q1, q2, q3⟩ := h.cases hk ho
  subst e
  obtain ⟨d9, od', k9, mq', last, kn', e1, e2, e3, hl, hdL, g⟩ := q2.colon hw hc
  subst e1 e2 e3
  obtain ⟨p1, p2, p3, p4, -⟩ := q1.hd
  obtain ⟨k1, k2⟩ := q1.kn1
  have hkl : kk = kn'.length := by have : mI M r 14 = ((kn'.length + 1 : Nat) : Int) := q1.2.1.2; omega
  subst hkl
  have hdd : dd = d9 := by rw [hd] at p3; omega
  subst hdd
  rw [p4, k1] at t4
  have hl0 : lwx (ruW u a) = 0 := by rw [hw]; decide
  exact ⟨(42, m, a + 1) :: t, (L : Int) :: od', _ :: mq', kn', ft, q1.top (o' := 42) (x' := a + 1) (by rw [h12, hk]) t1 (fun i => by rw [t2]) t3 t4 (k2.cg t5) h14 (q1.2.2.2.1.same h3 h4) h5 (by unfold opq; omega) rfl rfl, g _ _ (fun i hi => by rw [hO, if_neg (by omega)]) (fun i hi hn => by rw [hP i hi, if_neg hn]) (by rw [hO, if_pos rfl]) (by rw [hP dd hdL, if_pos rfl]), rfl, (q3.trans (sim_end (os := 33 :: ops t) q1.q6 (Or.inl (by omega)))).trans (sim_colon hw)⟩
/-- a word that neither goes on nor closes -/
theorem RW0.shut (h : RW0 u M r O P s c c' L a) (hk : mI M r 12 = (k : Int) + 1) (ho : mI M (r + 1) k = o) (ho2 : o = 37 ∨ o = 15 ∨ o = 16 ∨ o = 33) (hm : lwx (ruW u a) ≤ c' ∨ rsq o < lwx (ruW u a)) (h1 : o = 37 → ruW u a ≠ 37) (h2 : o = 15 ∨ o = 16 → ruW u a ≠ 37 ∧ ruW u a ≠ 35) (h3 : o = 33 → ruW u a ≠ 33) : Rf (ruW u) (uS u) (uK u) a := by
  obtain ⟨m, x, t, od, mq, kn, ft, e, q1, q2, q3⟩ := h.cases hk ho
  exact (q3.trans (sim_end (os := o :: ops t) q1.q6 hm)).rf (sim_close_no ho2 h1 h2 h3)
end RZ
