/-! The class's game: weighChances, the whole. -/
section GAE
variable {G : mG} {d z g p O P K V F L cnt U Ab Be C Ab0 Be0 C0 s h t c cn k u v cc n : Nat} {M0 M M' M1 M2 : mM} {ns : Nat → Int} {sf ef : Nat → Nat} {H : Nat → Nat} {S R : Nat → Prop}
/-- cells that a run leaves alone -/
theorem ga_ce (hx : GX M0 z g p O P K V F ns sf ef L cnt Ab0 Be0 C0 M Ab Be C) (f : FA (mcS (g + 10) Ab Be) (fun x => x = g + 10) M M') : (∀ i, i ≤ 9 ∨ (20 ≤ i ∧ i ≤ 22) → mI M' (g + i) = mI M (g + i)) ∧ (∀ i, i ≤ 15 → mI M' (p + i) = mI M (p + i)) := by
  have ne := hx.ne
  obtain ⟨-, -, h3, h4, -, ⟨h61, h62, h63⟩, -⟩ := hx
  obtain ⟨a1, a2, -, -⟩ := h3.2.2.2.2.2.1
  have z1 := h3.2.2.2.2.2.2.1.1
  have o4 := h4.1.2.2.2.1.2.2.2
  clear h3 h4
  refine ⟨fun i hi => (f.2 (g + i) (by omega)).2.2.2.2 (fun y => ?_), fun i hi => (f.2 (p + i) (by omega)).2.2.2.2 (fun y => ne.1 i hi ?_)⟩
  · have y' : g + i = g + 10 ∨ g + i = g + 10 + 2 ∨ (g + 10 + 5 ≤ g + i ∧ g + i ≤ g + 10 + 9) ∨ g + i = Ab ∨ g + i = Be := y
    omega
  · have y' : p + i = g + 10 ∨ p + i = g + 10 + 2 ∨ (g + 10 + 5 ≤ p + i ∧ p + i ≤ g + 10 + 9) ∨ p + i = Ab ∨ p + i = Be := y
    show (g ≤ p + i ∧ p + i ≤ g + 22) ∨ p + i = Ab ∨ p + i = Be
    omega
theorem ga_wg (hx : GX M0 z g p O P K V F ns sf ef L cnt Ab0 Be0 C0 M Ab Be C) (f : FA (mcS (g + 10) Ab Be) (fun x => x = g + 10) M M') (h9 : mI M' (g + 10) 9 = mI M (g + 10) 9) : wgF M g M' := by
  obtain ⟨e1, -⟩ := ga_ce hx f
  have e0 := e1 0 (by omega)
  rw [Nat.add_zero] at e0
  exact ⟨fun i _ => by rw [e0], fun i _ i9 _ => e1 i (by omega), e1 20 (by omega), fun i _ => by rw [e1 6 (by omega)], h9⟩
end GAE
