section
section
variable {u : Ru} {M M' : mM} {r O P s c c' L a m x k kk : Nat} {gs t : List gqq} {od mq kn kn' : List Int} {ft ft' : Int × Int} {o d v : Int}
/-- how strong the operand behind the latest operation may be -/
def hrs (u : Ru) (M : mM) (r : Nat) (y : Nat) : Prop := (mI M r 12 = 0 ∧ uQ u = y) ∨ ∃ j : Nat, mI M r 12 = (j : Int) + 1 ∧ rsq (mI M (r + 1) j) = y
theorem RWc.rsl (h : RWc u M r gs od mq kn ft) : hrs u M r (rsl (uQ u) (ops gs)) := by
  cases gs with
  | nil => exact Or.inl ⟨h.kl, rfl⟩
  | cons g t =>
    obtain ⟨o, m, x⟩ := g
    have hkl : mI M r 12 = ((t.length + 1 : Nat) : Int) := h.kl
    have hop : mI M (r + 1) t.length = o := by have := h.1.1.1; rw [List.length_map] at this; exact this
    exact Or.inr ⟨t.length, by omega, by rw [hop]; rfl⟩
theorem hrs.eq {y y' : Nat} (h : hrs u M r y) (h' : hrs u M r y') : y = y' := by
  rcases h with ⟨h1, h2⟩ | ⟨j, h1, h2⟩ <;> rcases h' with ⟨g1, g2⟩ | ⟨i, g1, g2⟩
  · omega
  · omega
  · omega
  · have : i = j := by omega
    rw [this] at g2
    omega
theorem cst_x {o : Int} (ho : 19 ≤ o ∧ o ≤ 31) : cst o = lwx (o - 1) := by
  unfold cst lwx
  (repeat' split) <;> omega
/-- a sign between two operands, without an order -/
theorem RW0.sbin {y : Nat} (h : RW0 u M r O P s c c' L a) (ho : 19 ≤ o ∧ o ≤ 29) (hw : ruW u a = o - 1) (hc : c ≤ lsq o) (hm : c' < lwx (ruW u a)) (hy : hrs u M r y) (hr : lwx (ruW u a) ≤ y) (hk : mI M r 12 = k) (h12 : mI M' r 12 = (k : Int) + 1) (h5 : mI M' r 5 = mI M r 5) (h3 : mI M' r 3 = mI M r 3) (h4 : mI M' r 4 = mI M r 4) (h14 : mI M' r 14 = mI M r 14) (t1 : ∀ i, mI M' (r + 1) i = if i = k then o else mI M (r + 1) i) (t2 : ∀ i, mI M' (r + 2) i = if i = k then uP u a else mI M (r + 2) i) (t3 : ∀ i, mI M' (r + 3) i = if i = k then -1 else mI M (r + 3) i) (t4 : ∀ i, mI M' (r + 4) i = if i = k then 0 else mI M (r + 4) i) (t5 : mI M' (r + 5) = mI M (r + 5)) (hO : mI M' O = mI M O) (hP : mI M' P = mI M P) : RW1 u M' r O P s L (a + 1) := by
  obtain ⟨gs, od, mq, kn, ft, q1, q2, q3⟩ := h
  have hl : k = gs.length := by have := q1.kl; omega
  subst hl
  have er := hy.eq q1.rsl
  subst er
  have hcs : cst o = lwx (ruW u a) := by rw [hw]; exact cst_x (by omega)
  refine ⟨(o, a, a + 1) :: gs, -1 :: od, 0 :: mq, kn, ft, q1.push (by rw [h12, hk]) t1 t2 t3 t4 (by rw [t5]; exact q1.1.2.2.2.2) (by rw [h14]; exact q1.2.1.2) (q1.2.2.2.1.same h3 h4) (by rw [h5, cdq0 (by omega)]; omega) (by unfold opq; omega) (by rw [hcs]; exact hr), ?_, rfl, ?_⟩
  · rw [hO, hP]
    exact q2.sbin ho hw hc
  · have l5 : lwx (ruW u a) ≤ 5 := by rw [hw]; unfold lwx; (repeat' split) <;> omega
    have e := sim_sign (z := uZ u) (x := o - 1) q1.q6 hw (by rw [← hw]; omega) (by rw [← hw]; exact l5) (by rw [← hw]; exact hm) (by rw [← hw]; exact hr)
    rw [show o - 1 + 1 = o by first | rfl | omega] at e
    exact q3.trans e
/-- '&', '|' -/
theorem RW0.sjmp {y : Nat} (h : RW0 u M r O P s c c' L a) (ho : o = 30 ∨ o = 31) (hw : ruW u a = o - 1) (hc : c ≤ lsq o) (hm : c' < lwx (ruW u a)) (hy : hrs u M r y) (hr : lwx (ruW u a) ≤ y) (hk : mI M r 12 = k) (h12 : mI M' r 12 = (k : Int) + 1) (h5 : mI M' r 5 = mI M r 5) (h3 : mI M' r 3 = mI M r 3) (h4 : mI M' r 4 = mI M r 4) (h14 : mI M' r 14 = mI M r 14) (t1 : ∀ i, mI M' (r + 1) i = if i = k then o else mI M (r + 1) i) (t2 : ∀ i, mI M' (r + 2) i = if i = k then uP u a else mI M (r + 2) i) (t3 : ∀ i, mI M' (r + 3) i = if i = k then (L : Int) else mI M (r + 3) i) (t4 : ∀ i, mI M' (r + 4) i = if i = k then 0 else mI M (r + 4) i) (t5 : mI M' (r + 5) = mI M (r + 5)) (hO : ∀ i, mI M' O i = if i = L then o else mI M O i) (hP : ∀ i, i < L → mI M' P i = mI M P i) : RW1 u M' r O P s (L + 1) (a + 1) := by
  obtain ⟨gs, od, mq, kn, ft, q1, q2, q3⟩ := h
  have hl : k = gs.length := by have := q1.kl; omega
  subst hl
  have er := hy.eq q1.rsl
  subst er
  have hcs : cst o = lwx (ruW u a) := by rw [hw]; exact cst_x (by omega)
  refine ⟨(o, a, a + 1) :: gs, (L : Int) :: od, 0 :: mq, kn, ft, q1.push (by rw [h12, hk]) t1 t2 t3 t4 (by rw [t5]; exact q1.1.2.2.2.2) (by rw [h14]; exact q1.2.1.2) (q1.2.2.2.1.same h3 h4) (by rw [h5, cdq0 (by omega)]; omega) (by unfold opq; omega) (by rw [hcs]; exact hr), q2.sjmp ho hw hc (fun i hi => ⟨by rw [hO, if_neg (by omega)], hP i hi⟩) (by rw [hO, if_pos rfl]), rfl, ?_⟩
  have l5 : lwx (ruW u a) ≤ 5 := by rw [hw]; unfold lwx; (repeat' split) <;> omega
  have e := sim_sign (z := uZ u) (x := o - 1) q1.q6 hw (by rw [← hw]; omega) (by rw [← hw]; exact l5) (by rw [← hw]; exact hm) (by rw [← hw]; exact hr)
  rw [show o - 1 + 1 = o by first | rfl | omega] at e
  exact q3.trans e
end
end
