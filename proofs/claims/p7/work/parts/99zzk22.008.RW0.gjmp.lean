section
section
variable {u : Ru} {M M' : mM} {r O P s c c' L a m x k kk : Nat} {gs t : List gqq} {od mq kn kn' : List Int} {ft ft' : Int × Int} {o d v : Int}
/-- '-' or '!' before an operand is grouped -/
theorem RW0.gun (h : RW0 u M r O P s c c' L a) (hk : mI M r 12 = (k : Int) + 1) (ho : mI M (r + 1) k = o) (ho2 : o = 40 ∨ o = 41) (hc : c ≤ rsq o) (hm : lwx (ruW u a) ≤ c' ∨ rsq o < lwx (ruW u a)) (h12 : mI M' r 12 = k) (h5 : mI M' r 5 = mI M r 5 - 1) (hkk : mI M r 14 = (kk : Int) + 1) (h14 : mI M' r 14 = (kk : Int) + 1) (hT : ∀ i, 1 ≤ i → i ≤ 4 → mI M' (r + i) = mI M (r + i)) (t5 : ∀ i : Nat, mI M' (r + 5) i = if i = kk then (if o = 41 then 1 else 0) else mI M (r + 5) i) (hF : Fqq M r (kft (mI M (r + 5) kk = if o = 41 then 1 else 0) (mI M (r + 2) k)) M') (hO : ∀ i, mI M' O i = if i = L then o else mI M O i) (hP : ∀ i, mI M' P i = if i = L then mI M (r + 2) k else mI M P i) : RW0 u M' r O P s (cst o) (pst o) (L + 1) a := by
  obtain ⟨m, x, t, od, mq, kn, ft, e, q1, q2, q3⟩ := h.cases hk ho
  subst e
  obtain ⟨od', mq', last, kn', e1, e2, e3, hl, g⟩ := q2.gpre ho2 hc
  subst e1 e2 e3
  obtain ⟨-, p2, -, -, -⟩ := q1.hd
  obtain ⟨k1, k2⟩ := q1.kn1
  have hkl : kk = kn'.length := by have : mI M r 14 = ((kn'.length + 1 : Nat) : Int) := q1.2.1.2; omega
  subst hkl
  rw [p2, k1] at hF
  rw [p2] at hP
  exact ⟨t, od', mq', _, _, q1.pop (by rw [h12, hk]; omega) (fun i i1 i4 j _ => by rw [hT i i1 i4]) (k2.put t5) (by rw [h14]; rfl) (hF ft q1.2.2.2.1) (by rw [h5]; rcases ho2 with e | e <;> subst e <;> rfl), g _ _ (fun i hi => ⟨by rw [hO, if_neg (by omega)], by rw [hP, if_neg (by omega)]⟩) (by rw [hO, if_pos rfl]) (by rw [hP, if_pos rfl]), q3.trans (sim_pop q1.q6 q1.wo (Or.inr (by omega)) hm)⟩
/-- a sign between two operands is grouped -/
theorem RW0.gbin (h : RW0 u M r O P s c c' L a) (hk : mI M r 12 = (k : Int) + 1) (ho : mI M (r + 1) k = o) (ho2 : 19 ≤ o ∧ o ≤ 29) (hc : c ≤ rsq o) (hm : lwx (ruW u a) ≤ c' ∨ rsq o < lwx (ruW u a)) (h12 : mI M' r 12 = k) (h5 : mI M' r 5 = mI M r 5) (hkk : mI M r 14 = (kk : Int) + 2) (h14 : mI M' r 14 = (kk : Int) + 1) (hT : ∀ i, 1 ≤ i → i ≤ 4 → mI M' (r + i) = mI M (r + i)) (t5 : ∀ i : Nat, mI M' (r + 5) i = if i = kk then (if o ≤ 24 then 1 else 0) else mI M (r + 5) i) (hF : Fqq M r (kft (okq (o - 1) (mI M (r + 5) kk) (mI M (r + 5) (kk + 1))) (mI M (r + 2) k)) M') (hO : ∀ i, mI M' O i = if i = L then o else mI M O i) (hP : ∀ i, mI M' P i = if i = L then mI M (r + 2) k else mI M P i) : RW0 u M' r O P s (cst o) (pst o) (L + 1) a := by
  obtain ⟨m, x, t, od, mq, kn, ft, e, q1, q2, q3⟩ := h.cases hk ho
  subst e
  obtain ⟨od', mq', last, left, kn', e1, e2, e3, hl, g⟩ := q2.gbin ho2 hc
  subst e1 e2 e3
  obtain ⟨-, p2, -, -, -⟩ := q1.hd
  obtain ⟨k1, k2, k3⟩ := q1.kn1
  have hkl : kk = kn'.length := by have : mI M r 14 = ((kn'.length + 2 : Nat) : Int) := q1.2.1.2; omega
  subst hkl
  have k1 : mI M (r + 5) (kn'.length + 1) = last := k1
  rw [p2, k1, k2] at hF
  rw [p2] at hP
  exact ⟨t, od', mq', _, _, q1.pop (by rw [h12, hk]; omega) (fun i i1 i4 j _ => by rw [hT i i1 i4]) (k3.put t5) (by rw [h14]; rfl) (hF ft q1.2.2.2.1) (by rw [h5, cdq0 (by omega)]; omega), g _ _ (fun i hi => ⟨by rw [hO, if_neg (by omega)], by rw [hP, if_neg (by omega)]⟩) (by rw [hO, if_pos rfl]) (by rw [hP, if_pos rfl]), q3.trans (sim_pop q1.q6 q1.wo (Or.inl (by omega)) hm)⟩
/-- '&' or '|' is grouped -/
theorem RW0.gjmp {dd : Nat} (h : RW0 u M r O P s c c' L a) (hk : mI M r 12 = (k : Int) + 1) (ho : mI M (r + 1) k = o) (ho2 : o = 30 ∨ o = 31) (hc : c ≤ rsq o) (hm : lwx (ruW u a) ≤ c' ∨ rsq o < lwx (ruW u a)) (h12 : mI M' r 12 = k) (h5 : mI M' r 5 = mI M r 5) (hkk : mI M r 14 = (kk : Int) + 2) (h14 : mI M' r 14 = (kk : Int) + 1) (hT : ∀ i, 1 ≤ i → i ≤ 4 → mI M' (r + i) = mI M (r + i)) (t5 : ∀ i : Nat, mI M' (r + 5) i = if i = kk then 1 else mI M (r + 5) i) (hF : Fqq M r (kft (okq (o - 1) (mI M (r + 5) kk) (mI M (r + 5) (kk + 1))) (mI M (r + 2) k)) M') (hd : mI M (r + 3) k = dd) (hO : ∀ i, mI M' O i = mI M O i) (hP : ∀ i, mI M' P i = if i = dd then (L : Int) else mI M P i) : RW0 u M' r O P s (cst o) (pst o) L a := by
  obtain ⟨m, x, t, od, mq, kn, ft, e, q1, q2, q3⟩ := h.cases hk ho
  subst e
  obtain ⟨d9, od', mq', last, left, kn', e1, e2, e3, hl, hdL, g⟩ := q2.gjmp ho2 hc
  subst e1 e2 e3
  obtain ⟨-, p2, p3, -, -⟩ := q1.hd
  obtain ⟨k1, k2, k3⟩ := q1.kn1
  have hkl : kk = kn'.length := by have : mI M r 14 = ((kn'.length + 2 : Nat) : Int) := q1.2.1.2; omega
  subst hkl
  have k1 : mI M (r + 5) (kn'.length + 1) = last := k1
  have hdd : dd = d9 := by rw [hd] at p3; omega
  subst hdd
  rw [p2, k1, k2] at hF
  exact ⟨t, od', mq', _, _, q1.pop (by rw [h12, hk]; omega) (fun i i1 i4 j _ => by rw [hT i i1 i4]) (k3.put t5) (by rw [h14]; rfl) (hF ft q1.2.2.2.1) (by rw [h5, cdq0 (by omega)]; omega), g _ _ (fun i hi => hO i) (fun i hi hn => by rw [hP, if_neg hn]) (by rw [hP, if_pos rfl]), q3.trans (sim_pop q1.q6 q1.wo (Or.inl (by omega)) hm)⟩
end
end
