section
section
variable {u : Ru} {M M' : mM} {r O P s c c' L a m x k kk : Nat} {gs t : List gqq} {od mq kn kn' : List Int} {ft ft' : Int × Int} {o d v : Int}
/-- '(' , '-' , '!' -/
theorem RW1.lvl (h : RW1 u M r O P s L a) (ho : (o = 37 ∧ ruW u a = 36) ∨ (o = 40 ∧ ruW u a = 25) ∨ (o = 41 ∧ ruW u a = 31)) (hm : o = 41 → myd M r) (hlt : mI M r 5 < 40) (hk : mI M r 12 = k) (h12 : mI M' r 12 = (k : Int) + 1) (h5 : mI M' r 5 = mI M r 5 + 1) (h3 : mI M' r 3 = mI M r 3) (h4 : mI M' r 4 = mI M r 4) (h14 : mI M' r 14 = mI M r 14) (t1 : ∀ i, mI M' (r + 1) i = if i = k then o else mI M (r + 1) i) (t2 : ∀ i, mI M' (r + 2) i = if i = k then uP u a else mI M (r + 2) i) (t3 : ∀ i, mI M' (r + 3) i = if i = k then -1 else mI M (r + 3) i) (t4 : ∀ i, mI M' (r + 4) i = if i = k then 0 else mI M (r + 4) i) (t5 : mI M' (r + 5) = mI M (r + 5)) (hO : mI M' O = mI M O) (hP : mI M' P = mI M P) : RW1 u M' r O P s L (a + 1) := by
  obtain ⟨gs, od, mq, kn, ft, q1, q2, q3, q4⟩ := h
  have hl : k = gs.length := by have := q1.kl; omega
  subst hl
  have hd : slv (uZ u) + lvs (ops gs) < 40 := by rw [← q1.dp]; exact hlt
  have hc : cst o ≤ rsl (uQ u) (ops gs) := by
    rcases ho with ⟨e, -⟩ | ⟨e, -⟩ | ⟨e, -⟩
    · subst e; exact Nat.zero_le _
    · subst e; exact Nat.zero_le _
    · have := q1.rsl3.mp (hm e)
      subst e
      exact this
  refine ⟨(o, a, a + 1) :: gs, -1 :: od, 0 :: mq, kn, ft, q1.push (by rw [h12, hk]) t1 t2 t3 t4 (by rw [t5]; exact q1.1.2.2.2.2) (by rw [h14]; exact q1.2.1.2) (q1.2.2.2.1.same h3 h4) (by rw [h5]; rcases ho with ⟨e, -⟩ | ⟨e, -⟩ | ⟨e, -⟩ <;> subst e <;> rfl) (by unfold opq; omega) hc, ?_, rfl, ?_⟩
  · rw [hO, hP]
    exact q2.pre q3 ho
  · rcases ho with ⟨e, hx⟩ | ⟨e, hx⟩ | ⟨e, hx⟩
    · subst e; exact q4.trans (sim_open q1.q6 q1.wo hx hd)
    · subst e; exact q4.trans (sim_neg q1.q6 q1.wo hx hd)
    · subst e; exact q4.trans (sim_not q1.q6 q1.wo hc hx hd)
/-- least, most -/
theorem RW1.lst (h : RW1 u M r O P s L a) (ho : o = 15 ∨ o = 16) (hw : ruW u a = o - 1) (hw1 : ruW u (a + 1) = 36) (hlt : mI M r 5 < 40) (hk : mI M r 12 = k) (h12 : mI M' r 12 = (k : Int) + 1) (h5 : mI M' r 5 = mI M r 5 + 1) (h3 : mI M' r 3 = mI M r 3) (h4 : mI M' r 4 = mI M r 4) (h14 : mI M' r 14 = mI M r 14) (t1 : ∀ i, mI M' (r + 1) i = if i = k then o else mI M (r + 1) i) (t2 : ∀ i, mI M' (r + 2) i = if i = k then uP u a else mI M (r + 2) i) (t3 : ∀ i, mI M' (r + 3) i = if i = k then -1 else mI M (r + 3) i) (t4 : ∀ i, mI M' (r + 4) i = if i = k then 0 else mI M (r + 4) i) (t5 : mI M' (r + 5) = mI M (r + 5)) (hO : mI M' O = mI M O) (hP : mI M' P = mI M P) : RW1 u M' r O P s L (a + 2) := by
  obtain ⟨gs, od, mq, kn, ft, q1, q2, q3, q4⟩ := h
  have hl : k = gs.length := by have := q1.kl; omega
  subst hl
  have hd : slv (uZ u) + lvs (ops gs) < 40 := by rw [← q1.dp]; exact hlt
  have hc : cst o ≤ rsl (uQ u) (ops gs) := by rcases ho with e | e <;> subst e <;> exact Nat.zero_le _
  refine ⟨(o, a, a + 2) :: gs, -1 :: od, 0 :: mq, kn, ft, q1.push (by rw [h12, hk]) t1 t2 t3 t4 (by rw [t5]; exact q1.1.2.2.2.2) (by rw [h14]; exact q1.2.1.2) (q1.2.2.2.1.same h3 h4) (by rw [h5]; rcases ho with e | e <;> subst e <;> rfl) (by unfold opq; omega) hc, ?_, rfl, q4.trans (sim_list ho q1.q6 q1.wo (by omega) hw1 hd)⟩
  rw [hO, hP]
  exact q2.lst q3 ho hw hw1
/-- an operand that can't begin so -/
theorem RW1.no (h : RW1 u M r O P s L a) (hx : ¬ (ruW u a = 1 ∨ ruW u a = 2 ∨ ruW u a = 12 ∨ ruW u a = 13 ∨ ruW u a = 14 ∨ ruW u a = 15) ∧ (ruW u a = 25 ∨ ruW u a = 36 → ¬ mI M r 5 < 40) ∧ (ruW u a = 31 → ¬ (myd M r ∧ mI M r 5 < 40))) : Rf (ruW u) (uS u) (uK u) a := by
  obtain ⟨gs, od, mq, kn, ft, q1, q2, q3, q4⟩ := h
  refine q4.rf ?_
  obtain ⟨h1, h2, h3⟩ := hx
  rw [q1.dp] at h2 h3
  by_cases c1 : ruW u a = 25
  · exact sim_neg_no q1.q6 q1.wo c1 (h2 (Or.inl c1))
  · by_cases c2 : ruW u a = 36
    · exact sim_open_no q1.q6 q1.wo c2 (h2 (Or.inr c2))
    · by_cases c3 : ruW u a = 31
      · exact sim_not_no q1.q6 q1.wo c3 (fun q => h3 c3 ⟨q1.rsl3.mpr q.1, q.2⟩)
      · exact sim_no q1.q6 (by omega)
theorem RW1.lst_no (h : RW1 u M r O P s L a) (hw : ruW u a = 14 ∨ ruW u a = 15) (hx : ¬ (ruW u (a + 1) = 36 ∧ mI M r 5 < 40)) : Rf (ruW u) (uS u) (uK u) (a + 1) := by
  obtain ⟨gs, od, mq, kn, ft, q1, q2, q3, q4⟩ := h
  rw [q1.dp] at hx
  exact q4.rf (sim_list_no q1.q6 q1.wo hw hx)
/-- the latest operation -/
theorem RW0.cases (h : RW0 u M r O P s c c' L a) (hk : mI M r 12 = (k : Int) + 1) (ho : mI M (r + 1) k = o) : ∃ m x t od mq kn ft, t.length = k ∧ RWc u M r ((o, m, x) :: t) od mq kn ft ∧ OPq (ruW u) (uE u) (uP u) (mI M O) (mI M P) (uC u) (ruI u) s (uF u) c ((o, m, x) :: t) od mq kn ft L a ∧ Rc (ruW u) (uS u) (uK u) (gyR (uZ u) (uQ u) c' (o :: ops t)) a := by
  obtain ⟨gs, od, mq, kn, ft, q1, q2, q3⟩ := h
  cases gs with
  | nil =>
    have e : mI M r 12 = 0 := q1.kl
    omega
  | cons g t =>
    obtain ⟨o', m, x⟩ := g
    have hkl : mI M r 12 = ((t.length + 1 : Nat) : Int) := q1.kl
    have hop : mI M (r + 1) t.length = o' := by have := q1.1.1.1; rw [List.length_map] at this; exact this
    have e : t.length = k := by omega
    rw [e, ho] at hop
    subst hop
    exact ⟨m, x, t, od, mq, kn, ft, e, q1, q2, q3⟩
end
end
