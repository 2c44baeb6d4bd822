section
section
variable {u : Ru} {M M' : mM} {r O P s c c' L a m x k kk : Nat} {gs t : List gqq} {od mq kn kn' : List Int} {ft ft' : Int × Int} {o d v : Int}
/-- '?' with its ':' is grouped -/
theorem RW0.gels {dd : Nat} (h : RW0 u M r O P s c c' L a) (hk : mI M r 12 = (k : Int) + 1) (ho : mI M (r + 1) k = 42) (hc : c ≤ 6) (hm : lwx (ruW u a) ≤ c') (h12 : mI M' r 12 = k) (h5 : mI M' r 5 = mI M r 5 - 1) (hkk : mI M r 14 = (kk : Int) + 1) (h14 : mI M' r 14 = (kk : Int) + 1) (hT : ∀ i, 1 ≤ i → i ≤ 4 → mI M' (r + i) = mI M (r + i)) (t5 : ∀ i : Nat, mI M' (r + 5) i = mI M (r + 5) i) (hF : Fqq M r (kft (mI M (r + 4) k = if mI M (r + 5) kk = 1 then 4 else 0) (mI M (r + 2) k)) M') (hd : mI M (r + 3) k = dd) (hO : ∀ i, mI M' O i = mI M O i) (hP : ∀ i, mI M' P i = if i = dd then (L : Int) else mI M P i) : RW0 u M' r O P s 6 6 L a := by
  obtain ⟨m, x, t, od, mq, kn, ft, e, q1, q2, q3⟩ := h.cases hk ho
  subst e
  obtain ⟨d9, od', k9, mq', last, kn', e1, e2, e3, hl, hdL, g⟩ := q2.gels hc
  subst e1 e2 e3
  obtain ⟨-, p2, p3, p4, -⟩ := q1.hd
  obtain ⟨k1, k2⟩ := q1.kn1
  have hkl : kk = kn'.length := by have : mI M r 14 = ((kn'.length + 1 : Nat) : Int) := q1.2.1.2; omega
  subst hkl
  have hdd : dd = d9 := by rw [hd] at p3; omega
  subst hdd
  rw [p2, p4, k1] at hF
  exact ⟨t, od', mq', last :: kn', _, q1.pop (by rw [h12, hk]; omega) (fun i i1 i4 j _ => by rw [hT i i1 i4]) (q1.1.2.2.2.2.cg (fun i _ => t5 i)) (by rw [h14]; rfl) (hF ft q1.2.2.2.1) (by rw [h5]; rfl), g _ _ (fun i hi => hO i) (fun i hi hn => by rw [hP, if_neg hn]) (by rw [hP, if_pos rfl]), q3.trans (sim_pop q1.q6 q1.wo (Or.inr (by omega)) (Or.inl hm))⟩
end
end
