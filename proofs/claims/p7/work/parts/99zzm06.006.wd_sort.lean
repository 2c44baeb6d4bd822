section
section
variable {kw : (Nat → Int) → Nat → Nat → Int} {c : Nat → Int} {N A B D n a Nw : Nat} {M M' : mM}
/-- the words as the machine reads them: n of them, then the end -/
noncomputable def cwq (kw : (Nat → Int) → Nat → Nat → Int) (c : Nat → Int) (N n : Nat) : Nat → Int := fun i => if i < n then wkq (kw c) c N (pwq c N i) else 0
theorem wd_cnt (h : spx kw c N M A B D n) (h' : rwx kw c N a Nw M') (hN : 1 ≤ Nw) : (n + 1 = Nw ∧ nt M' (a + 5) (Nw - 1) = 0 ∧ nt M' (a + 7) (Nw - 1) = N) ∨ (n = Nw ∧ nt M' (a + 5) (Nw - 1) = 39 ∧ wkq (kw c) c N (pwq c N (Nw - 1)) = 39 ∧ nt M' (a + 7) (Nw - 1) = pwq c N (Nw - 1)) := by
  obtain ⟨s1, s2, s3⟩ := h
  obtain ⟨r1, r2⟩ := h'
  rcases s3 with ⟨s3, s4⟩ | ⟨s3, s4⟩ <;> rcases r2 with ⟨r2, r3, r4⟩ | ⟨r2, r3, r4, r5⟩
  · left
    refine ⟨?_, r2, r4⟩
    by_cases y : n + 1 < Nw
    · have := (r1 n y).1; omega
    · by_cases y2 : Nw - 1 < n
      · have := (s1 (Nw - 1) y2).1; omega
      · omega
  · exfalso
    by_cases y : n + 1 < Nw
    · have := (r1 n y).1; omega
    · by_cases y2 : Nw - 1 < n
      · exact s4 (Nw - 1) y2 r4
      · have e : n = Nw - 1 := by omega
        rw [← e] at r3
        omega
  · exfalso
    by_cases y : n - 1 + 1 < Nw
    · exact (r1 (n - 1) y).2.1 s4
    · have := (s1 (Nw - 1) (by omega)).1
      omega
  · right
    refine ⟨?_, r2, r4, r5⟩
    by_cases y : n - 1 + 1 < Nw
    · exact absurd s4 (r1 (n - 1) y).2.1
    · by_cases y2 : Nw - 1 + 1 < n
      · exact absurd r4 (s2 (Nw - 1) y2)
      · omega
/-- word for word -/
theorem wd_same (h : spx kw c N M A B D n) (h' : rwx kw c N a Nw M') (hN : 1 ≤ Nw) : ∀ j, j < Nw → cwq kw c N n j = nt M' (a + 5) j := by
  intro j hj
  unfold cwq
  rcases wd_cnt h h' hN with ⟨e, e2, -⟩ | ⟨e, e2, e3, -⟩
  · by_cases y : j < n
    · rw [if_pos y, (h'.1 j (by omega)).2.2.1]
    · rw [if_neg y, show j = Nw - 1 by first | rfl | omega, e2]
  · rw [if_pos (by omega)]
    by_cases y : j + 1 < Nw
    · rw [(h'.1 j y).2.2.1]
    · rw [show j = Nw - 1 by first | rfl | omega, e2, e3]
/-- sorts -/
theorem wd_sort (h : spx kw c N M A B D n) (hA : mI M A n = 0) : ∀ j, j ≤ n → mI M A j = csq (cwq kw c N n j) := by
  intro j hj
  unfold cwq
  by_cases y : j < n
  · rw [if_pos y]; exact (h.1 j y).2.1
  · rw [if_neg y, show j = n by first | rfl | omega, hA]; decide
end
end
