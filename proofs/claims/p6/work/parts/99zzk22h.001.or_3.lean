section
variable {G : mG} {d z r w T A B D N C n p O P K k a s L V F d0 c : Nat} {M0 M M' M1 M2 M110 M126 M133 : mM} {H H' : Nat → Nat} {ns : Nat → Int} {wt : Int} {u : Ru} {c9 c8 L1 : Nat} {H1 : Nat → Nat}

theorem RW0.m33 (v : RW0 u M r O P s c9 c8 L a) (hw : ruW u a = 33) (hc : c9 ≤ 6) (hk : mI M r 12 = (k : Int) + 1) (ho : mI M (r + 1) k = 33) : mI M (r + 4) k = 0 ∨ mI M (r + 4) k = 1 := by
  obtain ⟨m, x, t, od, mq, kn, ft, e, q1, q2, q3⟩ := v.cases hk ho
  subst e
  obtain ⟨d9, od', k9, mq', last, kn', e1, e2, e3, hl, hdL, g⟩ := q2.colon hw hc
  subst e1 e2 e3
  obtain ⟨-, -, -, p4, -⟩ := q1.hd
  rw [p4]
  exact hl.2
theorem RW0.m15 {o : Int} (v : RW0 u M r O P s c9 c8 L a) (hc : c9 ≤ 6) (hk : mI M r 12 = (k : Int) + 1) (ho : mI M (r + 1) k = o) (ho2 : o = 15 ∨ o = 16) : mI M (r + 4) k = 0 ∨ mI M (r + 4) k = 2 ∨ mI M (r + 4) k = 3 := by
  obtain ⟨m, x, t, od, mq, kn, ft, e, q1, q2, q3⟩ := v.cases hk ho
  subst e
  obtain ⟨od', k9, mq', last, kn', e1, e2, e3, hl, g⟩ := q2.part ho2 hc
  subst e1 e2 e3
  obtain ⟨-, -, -, p4, -⟩ := q1.hd
  rw [p4]
  exact hl.2
theorem or_4 {m l v : Int} (hm : m = 0 ∨ m = 1) (hl : l = 0 ∨ l = 1) (hv : v = if l = 0 then 0 else 4) : orI m v = m + if l = 1 then 4 else 0 := by
  rcases hm with e | e <;> rcases hl with f | f <;> subst e <;> subst f <;> subst hv <;> decide
theorem or_3 {m l v : Int} (hm : m = 0 ∨ m = 2 ∨ m = 3) (hl : l = 0 ∨ l = 1) (hv : v = if l = 0 then 0 else 1) : orI m (orI 2 v) = (if m = 3 ∨ l = 1 then 3 else 2) ∧ (andI (orI m (orI 2 v)) 1 = 0 ↔ ¬ (m = 3 ∨ l = 1)) := by
  rcases hm with e | e | e <;> rcases hl with f | f <;> subst e <;> subst f <;> subst hv <;> decide
end
