section
section
variable {u : Ru} {M M' : mM} {r O P s c c' L a m x k kk : Nat} {gs t : List gqq} {od mq kn kn' : List Int} {ft ft' : Int × Int} {o d v : Int}
/-- ')' behind a list -/
theorem RW0.clos {L' : Nat} (h : RW0 u M r O P s c c' L a) (hw : ruW u a = 37) (hc : c ≤ 6) (hk : mI M r 12 = (k : Int) + 1) (ho : mI M (r + 1) k = o) (ho2 : o = 15 ∨ o = 16) (hkk : mI M r 14 = (kk : Int) + 1) (h12 : mI M' r 12 = k) (h5 : mI M' r 5 = mI M r 5 - 1) (h14 : mI M' r 14 = (kk : Int) + 1) (hT : ∀ i, 1 ≤ i → i ≤ 4 → ∀ j, j < k → mI M' (r + i) j = mI M (r + i) j) (t5 : ∀ i : Nat, mI M' (r + 5) i = if i = kk then 0 else mI M (r + 5) i) (hF : Fqq M r (kft (¬ (mI M (r + 4) k = 3 ∨ mI M (r + 5) kk = 1)) (mI M (r + 2) k)) M') (h0 : mI M (r + 4) k = 0 → L' = L ∧ mI M' O = mI M O ∧ mI M' P = mI M P) (h1 : mI M (r + 4) k ≠ 0 → L' = L + 1 ∧ (∀ i, mI M' O i = if i = L then o else mI M O i) ∧ (∀ i, mI M' P i = if i = L then mI M (r + 2) k else mI M P i)) : RW0 u M' r O P s 0 0 L' (a + 1) := by
  obtain ⟨m, x, t, od, mq, kn, ft, e, q1, q2, q3⟩ := h.cases hk ho
  subst e
  obtain ⟨od', k9, mq', last, kn', e1, e2, e3, hl, g⟩ := q2.clos ho2 hc hw
  subst e1 e2 e3
  obtain ⟨-, p2, -, p4, -⟩ := q1.hd
  obtain ⟨k1, k2⟩ := q1.kn1
  have hkl : kk = kn'.length := by have : mI M r 14 = ((kn'.length + 1 : Nat) : Int) := q1.2.1.2; omega
  subst hkl
  rw [p2, p4, k1] at hF
  rw [p4] at h0 h1
  rw [p2] at h1
  have hl0 : lwx (ruW u a) = 0 := by rw [hw]; decide
  refine ⟨t, od', mq', _, _, q1.pop (by rw [h12, hk]; omega) (fun i i1 i4 j hj => hT i i1 i4 j hj) (k2.put t5) (by rw [h14]; rfl) (hF ft q1.2.2.2.1) (by rw [h5]; rcases ho2 with e | e <;> subst e <;> rfl), g _ _ L' (fun i hi => ?_) (fun q => (h0 q).1) (fun q => ⟨(h1 q).1, by rw [(h1 q).2.1, if_pos rfl], by rw [(h1 q).2.2, if_pos rfl]⟩), (q3.trans (sim_end (os := o :: ops t) q1.q6 (Or.inl (by omega)))).trans (sim_close (Or.inr ho2) hw)⟩
  by_cases z : k9 = 0
  · rw [(h0 z).2.1, (h0 z).2.2]; exact ⟨rfl, rfl⟩
  · exact ⟨by rw [(h1 z).2.1, if_neg (by omega)], by rw [(h1 z).2.2, if_neg (by omega)]⟩
/-- ',' in a list -/
theorem RW0.comma {L' : Nat} (h : RW0 u M r O P s c c' L a) (hw : ruW u a = 35) (hc : c ≤ 6) (hk : mI M r 12 = (k : Int) + 1) (ho : mI M (r + 1) k = o) (ho2 : o = 15 ∨ o = 16) (hkk : mI M r 14 = (kk : Int) + 1) (h12 : mI M' r 12 = (k : Int) + 1) (h5 : mI M' r 5 = mI M r 5) (h3 : mI M' r 3 = mI M r 3) (h4 : mI M' r 4 = mI M r 4) (h14 : mI M' r 14 = kk) (hT : ∀ i, 1 ≤ i → i ≤ 3 → mI M' (r + i) = mI M (r + i)) (t4 : ∀ i, mI M' (r + 4) i = if i = k then (if mI M (r + 4) k = 3 ∨ mI M (r + 5) kk = 1 then 3 else 2) else mI M (r + 4) i) (t5 : ∀ i, i < kk → mI M' (r + 5) i = mI M (r + 5) i) (h0 : mI M (r + 4) k = 0 → L' = L ∧ mI M' O = mI M O ∧ mI M' P = mI M P) (h1 : mI M (r + 4) k ≠ 0 → L' = L + 1 ∧ (∀ i, mI M' O i = if i = L then o else mI M O i) ∧ (∀ i, mI M' P i = if i = L then mI M (r + 2) k else mI M P i)) : RW1 u M' r O P s L' (a + 1) := by
  obtain ⟨m, x, t, od, mq, kn, ft, e, q1, q2, q3⟩ := h.cases hk ho
  subst e
  obtain ⟨od', k9, mq', last, kn', e1, e2, e3, hl, g⟩ := q2.comma ho2 hc hw
  subst e1 e2 e3
  obtain ⟨p1, p2, p3, p4, -⟩ := q1.hd
  obtain ⟨k1, k2⟩ := q1.kn1
  have hkl : kk = kn'.length := by have : mI M r 14 = ((kn'.length + 1 : Nat) : Int) := q1.2.1.2; omega
  subst hkl
  rw [p4, k1] at t4
  rw [p4] at h0 h1
  rw [p2] at h1
  have hl0 : lwx (ruW u a) = 0 := by rw [hw]; decide
  refine ⟨(o, m, a + 1) :: t, -1 :: od', _ :: mq', kn', ft, q1.top (o' := o) (d' := -1) (x' := a + 1) (by rw [h12, hk]) (fun i => ?_) (fun i => by rw [hT 2 (by omega) (by omega)]) (fun i => ?_) t4 (k2.cg t5) h14 (q1.2.2.2.1.same h3 h4) h5 q1.wo.1 rfl rfl, g _ _ L' (fun i hi => ?_) (fun q => (h0 q).1) (fun q => ⟨(h1 q).1, by rw [(h1 q).2.1, if_pos rfl], by rw [(h1 q).2.2, if_pos rfl]⟩), rfl, (q3.trans (sim_end (os := o :: ops t) q1.q6 (Or.inl (by omega)))).trans (sim_comma ho2 hw)⟩
  · rw [hT 1 (by omega) (by omega)]
    split
    · rename_i y; rw [y]; exact p1
    · rfl
  · rw [hT 3 (by omega) (by omega)]
    split
    · rename_i y; rw [y]; exact p3
    · rfl
  · by_cases z : k9 = 0
    · rw [(h0 z).2.1, (h0 z).2.2]; exact ⟨rfl, rfl⟩
    · exact ⟨by rw [(h1 z).2.1, if_neg (by omega)], by rw [(h1 z).2.2, if_neg (by omega)]⟩
end
end
