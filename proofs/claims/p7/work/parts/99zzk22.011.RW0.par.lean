section
section
variable {u : Ru} {M M' : mM} {r O P s c c' L a m x k kk : Nat} {gs t : List gqq} {od mq kn kn' : List Int} {ft ft' : Int × Int} {o d v : Int}
/-- a second comparison -/
theorem RW0.dead (h : RW0 u M r O P s c c' L a) (hx : lwx (ruW u a) = 3) (hz : Rf (ruW u) (uZ u) a a) (hk : mI M r 12 = (k : Int) + 1) (ho : 19 ≤ mI M (r + 1) k ∧ mI M (r + 1) k ≤ 24) (hm : c' ≤ 2) : Rf (ruW u) (uS u) (uK u) a := by
  obtain ⟨m, x, t, od, mq, kn, ft, e, q1, q2, q3⟩ := h.cases hk rfl
  generalize mI M (r + 1) k = o at *
  have hwo : woq (uQ u) (o :: ops t) := q1.wo
  have h2 : rsq o = 2 := by unfold rsq; rw [if_neg (by omega), if_neg (by omega), if_pos ho]
  have h3 : cst o = 3 := by unfold cst; rw [if_neg (by omega), if_neg (by omega), if_pos (Or.inl ho)]
  have hp : pst o = 3 := by unfold pst; rw [if_neg (by omega)]; exact h3
  have s1 := sim_pop (w := ruW u) (k := a) (z := uZ u) (c := c') q1.q6 hwo (Or.inl (by omega)) (Or.inr (by rw [h2, hx]; omega))
  rw [hp] at s1
  have h33 : 3 ≤ rsl (uQ u) (ops t) := by have := hwo.2.1; rw [h3] at this; exact this
  exact (q3.trans s1).rf (sim_dead q1.q6 hx hz hwo.2.2 (by omega) h33)
/-- '?' -/
theorem RW0.ask (h : RW0 u M r O P s c c' L a) (hw : ruW u a = 32) (hc : c ≤ 5) (hm : c' ≤ 5) (hy : hrs u M r 6) (hlt : mI M r 5 < 40) (hk : mI M r 12 = k) (hkk : mI M r 14 = (kk : Int) + 1) (h12 : mI M' r 12 = (k : Int) + 1) (h5 : mI M' r 5 = mI M r 5 + 1) (h3 : mI M' r 3 = mI M r 3) (h4 : mI M' r 4 = mI M r 4) (h14 : mI M' r 14 = kk) (t1 : ∀ i, mI M' (r + 1) i = if i = k then 33 else mI M (r + 1) i) (t2 : ∀ i, mI M' (r + 2) i = if i = k then uP u a else mI M (r + 2) i) (t3 : ∀ i, mI M' (r + 3) i = if i = k then (L : Int) else mI M (r + 3) i) (t4 : ∀ i, mI M' (r + 4) i = if i = k then (if mI M (r + 5) kk = 1 then 0 else 1) else mI M (r + 4) i) (t5 : ∀ i, i < kk → mI M' (r + 5) i = mI M (r + 5) i) (hO : ∀ i, mI M' O i = if i = L then 33 else mI M O i) (hP : ∀ i, i < L → mI M' P i = mI M P i) : RW1 u M' r O P s (L + 1) (a + 1) := by
  obtain ⟨gs, od, mq, kn, ft, q1, q2, q3⟩ := h
  have hl : k = gs.length := by have := q1.kl; omega
  subst hl
  have er := hy.eq q1.rsl
  obtain ⟨last, kn', e1, e2, g⟩ := q2.sask (O' := mI M' O) (P' := mI M' P) hw hc (fun i hi => ⟨by rw [hO, if_neg (by omega)], hP i hi⟩) (by rw [hO, if_pos rfl])
  subst e1
  obtain ⟨k1, k2⟩ := q1.kn1
  have hkl : kk = kn'.length := by have : mI M r 14 = ((kn'.length + 1 : Nat) : Int) := q1.2.1.2; omega
  subst hkl
  rw [k1] at t4
  have hd : slv (uZ u) + lvs (ops gs) < 40 := by rw [← q1.dp]; exact hlt
  exact ⟨(33, a, a + 1) :: gs, (L : Int) :: od, _ :: mq, kn', ft, q1.push (by rw [h12, hk]) t1 t2 t3 t4 (k2.cg t5) h14 (q1.2.2.2.1.same h3 h4) (by rw [h5]; rfl) (by unfold opq; omega) (by rw [← er]; exact cst_le 33), g, rfl, q3.trans (sim_ask q1.q6 q1.wo er.symm hw hm hd)⟩
theorem RW0.ask_no (h : RW0 u M r O P s c c' L a) (hw : ruW u a = 32) (hm : c' ≤ 5) (hy : hrs u M r 6) (hlt : ¬ mI M r 5 < 40) : Rf (ruW u) (uS u) (uK u) a := by
  obtain ⟨gs, od, mq, kn, ft, q1, q2, q3⟩ := h
  have er := hy.eq q1.rsl
  rw [q1.dp] at hlt
  exact q3.rf (sim_ask_no q1.q6 q1.wo er.symm hw hm hlt)
/-- the rule is over -/
theorem RW0.over (h : RW0 u M r O P s c c' L a) (hk : mI M r 12 = 0) (hm : lwx (ruW u a) ≤ c' ∨ uQ u < lwx (ruW u a)) : Eo (ruW u) c (ruI u) a ∧ mI M (r + 5) 0 = kdq (ruW u) (uE u) 0 (ruI u) a ∧ FT M r (fst9 (uF u) (fl (ruW u) (uE u) (uP u) 0 (ruI u) a)) ∧ Cd (ruW u) (uC u) (uP u) (mI M O) (mI M P) 0 0 0 (ruI u) a s L ∧ mI M r 5 = slv (uZ u) ∧ Rc (ruW u) (uS u) (uK u) (uZ u) a := by
  obtain ⟨gs, od, mq, kn, ft, q1, q2, q3⟩ := h
  cases gs with
  | cons g t => have := q1.kl; rw [hk] at this; have e : ((t.length + 1 : Nat) : Int) = 0 := this.symm; omega
  | nil =>
    obtain ⟨a1, a2, a3, a4⟩ := q2.done
    subst a2 a3
    have dd := q1.dp
    refine ⟨a1, q1.1.2.2.2.2.1, q1.2.2.2.1, a4, ?_, q3.trans (sim_end q1.q6 hm)⟩
    rw [dd]
    show slv (uZ u) + ((0 : Nat) : Int) = _
    omega
/-- ')' behind '(' -/
theorem RW0.par (h : RW0 u M r O P s c c' L a) (hw : ruW u a = 37) (hc : c ≤ 6) (hk : mI M r 12 = (k : Int) + 1) (ho : mI M (r + 1) k = 37) (h12 : mI M' r 12 = k) (h5 : mI M' r 5 = mI M r 5 - 1) (h3 : mI M' r 3 = mI M r 3) (h4 : mI M' r 4 = mI M r 4) (h14 : mI M' r 14 = mI M r 14) (hT : ∀ i, 1 ≤ i → i ≤ 4 → mI M' (r + i) = mI M (r + i)) (t5 : mI M' (r + 5) = mI M (r + 5)) (hO : mI M' O = mI M O) (hP : mI M' P = mI M P) : RW0 u M' r O P s 0 0 L (a + 1) := by
  obtain ⟨m, x, t, od, mq, kn, ft, e, q1, q2, q3⟩ := h.cases hk ho
  subst e
  obtain ⟨od', mq', e1, e2, g⟩ := q2.cpar hc hw
  subst e1 e2
  have hl0 : lwx (ruW u a) = 0 := by rw [hw]; decide
  refine ⟨t, od', mq', kn, ft, q1.pop (by rw [h12, hk]; omega) (fun i i1 i4 j _ => by rw [hT i i1 i4]) (by rw [t5]; exact q1.1.2.2.2.2) (by rw [h14]; exact q1.2.1.2) (q1.2.2.2.1.same h3 h4) (by rw [h5]; rfl), by rw [hO, hP]; exact g, (q3.trans (sim_end (os := 37 :: ops t) q1.q6 (Or.inl (by omega)))).trans (sim_close (Or.inl rfl) hw)⟩
end
end
