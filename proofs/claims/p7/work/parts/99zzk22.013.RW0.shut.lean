section
section
variable {u : Ru} {M M' : mM} {r O P s c c' L a m x k kk : Nat} {gs t : List gqq} {od mq kn kn' : List Int} {ft ft' : Int × Int} {o d v : Int}
/-- ':' behind '?' -/
theorem RW0.colon {dd : Nat} (h : RW0 u M r O P s c c' L a) (hw : ruW u a = 33) (hc : c ≤ 6) (hk : mI M r 12 = (k : Int) + 1) (ho : mI M (r + 1) k = 33) (hkk : mI M r 14 = (kk : Int) + 1) (hd : mI M (r + 3) k = dd) (h12 : mI M' r 12 = (k : Int) + 1) (h5 : mI M' r 5 = mI M r 5) (h3 : mI M' r 3 = mI M r 3) (h4 : mI M' r 4 = mI M r 4) (h14 : mI M' r 14 = kk) (t1 : ∀ i, mI M' (r + 1) i = if i = k then 42 else mI M (r + 1) i) (t2 : mI M' (r + 2) = mI M (r + 2)) (t3 : ∀ i, mI M' (r + 3) i = if i = k then (L : Int) else mI M (r + 3) i) (t4 : ∀ i, mI M' (r + 4) i = if i = k then mI M (r + 4) k + (if mI M (r + 5) kk = 1 then 4 else 0) else mI M (r + 4) i) (t5 : ∀ i, i < kk → mI M' (r + 5) i = mI M (r + 5) i) (hO : ∀ i, mI M' O i = if i = L then 42 else mI M O i) (hP : ∀ i, i < L → mI M' P i = if i = dd then (L : Int) + 1 else mI M P i) : RW1 u M' r O P s (L + 1) (a + 1) := by
  obtain ⟨m, x, t, od, mq, kn, ft, e, q1, q2, q3⟩ := h.cases hk ho
  subst e
  obtain ⟨d9, od', k9, mq', last, kn', e1, e2, e3, hl, hdL, g⟩ := q2.colon hw hc
  subst e1 e2 e3
  obtain ⟨p1, p2, p3, p4, -⟩ := q1.hd
  obtain ⟨k1, k2⟩ := q1.kn1
  have hkl : kk = kn'.length := by have : mI M r 14 = ((kn'.length + 1 : Nat) : Int) := q1.2.1.2; omega
  subst hkl
  have hdd : dd = d9 := by rw [hd] at p3; omega
  subst hdd
  rw [p4, k1] at t4
  have hl0 : lwx (ruW u a) = 0 := by rw [hw]; decide
  exact ⟨(42, m, a + 1) :: t, (L : Int) :: od', _ :: mq', kn', ft, q1.top (o' := 42) (x' := a + 1) (by rw [h12, hk]) t1 (fun i => by rw [t2]) t3 t4 (k2.cg t5) h14 (q1.2.2.2.1.same h3 h4) h5 (by unfold opq; omega) rfl rfl, g _ _ (fun i hi => by rw [hO, if_neg (by omega)]) (fun i hi hn => by rw [hP i hi, if_neg hn]) (by rw [hO, if_pos rfl]) (by rw [hP dd hdL, if_pos rfl]), rfl, (q3.trans (sim_end (os := 33 :: ops t) q1.q6 (Or.inl (by omega)))).trans (sim_colon hw)⟩
/-- a word that neither goes on nor closes -/
theorem RW0.shut (h : RW0 u M r O P s c c' L a) (hk : mI M r 12 = (k : Int) + 1) (ho : mI M (r + 1) k = o) (ho2 : o = 37 ∨ o = 15 ∨ o = 16 ∨ o = 33) (hm : lwx (ruW u a) ≤ c' ∨ rsq o < lwx (ruW u a)) (h1 : o = 37 → ruW u a ≠ 37) (h2 : o = 15 ∨ o = 16 → ruW u a ≠ 37 ∧ ruW u a ≠ 35) (h3 : o = 33 → ruW u a ≠ 33) : Rf (ruW u) (uS u) (uK u) a := by
  obtain ⟨m, x, t, od, mq, kn, ft, e, q1, q2, q3⟩ := h.cases hk ho
  exact (q3.trans (sim_end (os := o :: ops t) q1.q6 hm)).rf (sim_close_no ho2 h1 h2 h3)
end
end
