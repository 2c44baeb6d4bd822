section
section
variable {G : mG} {d z r w T A B D N C n p O P K k a s L V F d0 : Nat} {M M' M1 M2 : mM} {H H' : Nat → Nat} {ns : Nat → Int} {wt : Int}
theorem off3 {b r p O P : Nat} (h1 : p < r ∨ r + 9 < p) (h2 : O < r ∨ r + 9 < O) (h3 : P < r ∨ r + 9 < P) (y1 : r ≤ b) (y2 : b ≤ r + 9) (q : b = p ∨ b = O ∨ b = P) : False := by
  rcases q with q | q | q <;> omega
theorem nin5 {b r : Nat} (y1 : b ≠ r) (y2 : b ≠ r + 5) (q : b = r ∨ b = r + 5) : False := q.elim y1 y2
theorem rin5 {b r : Nat} (q : b = r ∨ b = r + 5) : r ≤ b ∧ b ≤ r + 9 := by omega
theorem RB.off (h : RB M z r w T A B D N C n p O P K) : (O < r ∨ r + 9 < O) ∧ (P < r ∨ r + 9 < P) ∧ (p < r ∨ r + 9 < p) ∧ O ≠ p ∧ P ≠ p ∧ O ≠ P := by
  obtain ⟨-, -, -, -, ⟨-, -, -, ⟨a1, a2, a3, a4⟩, -⟩, ⟨s1, s2, -⟩, -⟩ := h
  refine ⟨?_, ?_, ?_, ?_, ?_, a3⟩ <;> omega
/-- an open operation keeps what it keeps -/
theorem enO.cg {L' i : Nat} (h : enO M r O s L H i) (h1 : ∀ j, j ≤ i → mI M' (r + 1) j = mI M (r + 1) j) (h2 : mI M' (r + 2) i = mI M (r + 2) i) (h3 : mI M' (r + 3) i = mI M (r + 3) i) (h4 : ∀ j, j ≤ i → mI M' (r + 4) j = mI M (r + 4) j) (hL : L ≤ L') (hO : ∀ j, j < L → mI M' O j = mI M O j) (hH : ∀ j, j ≤ L → H' j = H j) : enO M' r O s L' H' i := by
  obtain ⟨a1, a2, a3, a4, a5, a6, a7⟩ := h
  have b := (sums_cg (M := M) (M' := M') (r := r) (k := i) (fun j hj => h1 j (by omega)) (fun j hj => h4 j (by omega)) i (Nat.le_refl _)).1
  unfold enO
  rw [h1 i (Nat.le_refl _), h2, h3, h4 i (Nat.le_refl _), b]
  refine ⟨a1, a2, a3, a4, fun q => ?_, a6, fun q j hj => by rw [h1 j (by omega)]; exact a7 (by rw [h1 i (Nat.le_refl _)] at q; exact q) j hj⟩
  obtain ⟨t, t1, t2, t3, t4, t5, t6⟩ := a5 q
  exact ⟨t, t1, t2, by omega, by rw [hO t t3]; exact t4, by rw [hH t (by omega)]; exact t5, fun y => by rw [hH (t + 1) (by omega)]; exact t6 y⟩
theorem pdg_cg {k' pc : Nat} (h : pdg M r k pc) (hk : k ≤ k') (h1 : ∀ j, j < k → mI M' (r + 1) j = mI M (r + 1) j) (h3 : ∀ j, j < k → mI M' (r + 3) j = mI M (r + 3) j) : pdg M' r k' pc := by
  obtain ⟨i, i1, i2, i3⟩ := h
  exact ⟨i, by omega, by rw [h3 i i1]; exact i2, by rw [h1 i i1]; exact i3⟩
end
end
