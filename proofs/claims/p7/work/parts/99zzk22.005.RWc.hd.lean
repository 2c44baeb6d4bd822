section
section
variable {u : Ru} {M M' : mM} {r O P s c c' L a m x : Nat} {gs t : List gqq} {od mq kn kn' : List Int} {ft ft' : Int × Int} {o d k v : Int}
theorem RWc.hd (h : RWc u M r ((o, m, x) :: t) (d :: od) (k :: mq) kn ft) : mI M (r + 1) t.length = o ∧ mI M (r + 2) t.length = uP u m ∧ mI M (r + 3) t.length = d ∧ mI M (r + 4) t.length = k ∧ mI M r 12 = ((t.length + 1 : Nat) : Int) := by
  obtain ⟨⟨a1, a2, a3, a4, a5⟩, ⟨b1, b2⟩, ⟨c1, c2⟩, -⟩ := h
  have l1 := ops_len t
  have c1 : od.length + 1 = t.length + 1 := c1
  have c2 : mq.length + 1 = t.length + 1 := c2
  have q1 : mI M (r + 1) (ops t).length = o := a1.1
  have q2 : mI M (r + 2) (t.map (fun g => uP u g.2.1)).length = uP u m := a2.1
  have q3 : mI M (r + 3) od.length = d := a3.1
  have q4 : mI M (r + 4) mq.length = k := a4.1
  rw [l1] at q1
  rw [List.length_map] at q2
  rw [show od.length = t.length by first | rfl | omega] at q3
  rw [show mq.length = t.length by first | rfl | omega] at q4
  exact ⟨q1, q2, q3, q4, b1⟩
end
end
