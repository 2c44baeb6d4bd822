/-! The reference: what the grammar means for rules. -/
/-- words i to j - 1 are an expression of strength c (0 tight, 6 loose; 7: a list of them), n deep -/
def Ex (w : Nat → Int) : Nat → Nat → Nat → Nat → Prop
  | 0, _, _, _ => False
  | n + 1, c, i, j =>
    if c = 0 then (j = i + 1 ∧ (w i = 1 ∨ w i = 2 ∨ w i = 12 ∨ w i = 13)) ∨ (w i = 25 ∧ Ex w n 0 (i + 1) j) ∨ (w i = 36 ∧ w (j - 1) = 37 ∧ Ex w n 6 (i + 1) (j - 1)) ∨ ((w i = 14 ∨ w i = 15) ∧ w (i + 1) = 36 ∧ w (j - 1) = 37 ∧ Ex w n 7 (i + 2) (j - 1))
    else if c = 1 then Ex w n 0 i j ∨ ∃ m, (w m = 26 ∨ w m = 27 ∨ w m = 28) ∧ Ex w n 1 i m ∧ Ex w n 0 (m + 1) j
    else if c = 2 then Ex w n 1 i j ∨ ∃ m, (w m = 24 ∨ w m = 25) ∧ Ex w n 2 i m ∧ Ex w n 1 (m + 1) j
    else if c = 3 then Ex w n 2 i j ∨ (∃ m, (18 ≤ w m ∧ w m ≤ 23) ∧ Ex w n 2 i m ∧ Ex w n 2 (m + 1) j) ∨ (w i = 31 ∧ Ex w n 3 (i + 1) j)
    else if c = 4 then Ex w n 3 i j ∨ ∃ m, w m = 29 ∧ Ex w n 4 i m ∧ Ex w n 3 (m + 1) j
    else if c = 5 then Ex w n 4 i j ∨ ∃ m, w m = 30 ∧ Ex w n 5 i m ∧ Ex w n 4 (m + 1) j
    else if c = 6 then Ex w n 5 i j ∨ ∃ m q, w m = 32 ∧ w q = 33 ∧ Ex w n 5 i m ∧ Ex w n 6 (m + 1) q ∧ Ex w n 6 (q + 1) j
    else if c = 7 then Ex w n 6 i j ∨ ∃ m, w m = 35 ∧ Ex w n 7 i m ∧ Ex w n 6 (m + 1) j
    else False
section EX
variable {w : Nat → Int}
theorem Ex.up : ∀ {n c i j : Nat}, Ex w n c i j → Ex w (n + 1) c i j := by
  intro n
  induction n with
  | zero => intro c i j h; exact h.elim
  | succ n ih =>
    intro c i j h
    rw [Ex] at h ⊢
    by_cases c0 : c = 0
    · rw [if_pos c0] at h ⊢
      rcases h with h | h | h | h
      · exact Or.inl h
      · exact Or.inr (Or.inl ⟨h.1, ih h.2⟩)
      · exact Or.inr (Or.inr (Or.inl ⟨h.1, h.2.1, ih h.2.2⟩))
      · exact Or.inr (Or.inr (Or.inr ⟨h.1, h.2.1, h.2.2.1, ih h.2.2.2⟩))
    rw [if_neg c0] at h ⊢
    by_cases c1 : c = 1
    · rw [if_pos c1] at h ⊢
      rcases h with h | ⟨m, h1, h2, h3⟩
      · exact Or.inl (ih h)
      · exact Or.inr ⟨m, h1, ih h2, ih h3⟩
    rw [if_neg c1] at h ⊢
    by_cases c2 : c = 2
    · rw [if_pos c2] at h ⊢
      rcases h with h | ⟨m, h1, h2, h3⟩
      · exact Or.inl (ih h)
      · exact Or.inr ⟨m, h1, ih h2, ih h3⟩
    rw [if_neg c2] at h ⊢
    by_cases c3 : c = 3
    · rw [if_pos c3] at h ⊢
      rcases h with h | ⟨m, h1, h2, h3⟩ | ⟨h1, h2⟩
      · exact Or.inl (ih h)
      · exact Or.inr (Or.inl ⟨m, h1, ih h2, ih h3⟩)
      · exact Or.inr (Or.inr ⟨h1, ih h2⟩)
    rw [if_neg c3] at h ⊢
    by_cases c4 : c = 4
    · rw [if_pos c4] at h ⊢
      rcases h with h | ⟨m, h1, h2, h3⟩
      · exact Or.inl (ih h)
      · exact Or.inr ⟨m, h1, ih h2, ih h3⟩
    rw [if_neg c4] at h ⊢
    by_cases c5 : c = 5
    · rw [if_pos c5] at h ⊢
      rcases h with h | ⟨m, h1, h2, h3⟩
      · exact Or.inl (ih h)
      · exact Or.inr ⟨m, h1, ih h2, ih h3⟩
    rw [if_neg c5] at h ⊢
    by_cases c6 : c = 6
    · rw [if_pos c6] at h ⊢
      rcases h with h | ⟨m, q, h1, h2, h3, h4, h5⟩
      · exact Or.inl (ih h)
      · exact Or.inr ⟨m, q, h1, h2, ih h3, ih h4, ih h5⟩
    rw [if_neg c6] at h ⊢
    by_cases c7 : c = 7
    · rw [if_pos c7] at h ⊢
      rcases h with h | ⟨m, h1, h2, h3⟩
      · exact Or.inl (ih h)
      · exact Or.inr ⟨m, h1, ih h2, ih h3⟩
    · rw [if_neg c7] at h
      exact h.elim
theorem Ex.add {n c i j : Nat} (h : Ex w n c i j) : ∀ k, Ex w (n + k) c i j
  | 0 => h
  | k + 1 => (Ex.add h k).up
/-- at some depth -/
def Eo (w : Nat → Int) (c i j : Nat) : Prop := ∃ n, Ex w n c i j
theorem Ex.le {n m c i j : Nat} (h : Ex w n c i j) (hl : n ≤ m) : Ex w m c i j := by
  have := h.add (m - n)
  rw [show n + (m - n) = m by omega] at this
  exact this
theorem Eo.two {c1 i1 j1 c2 i2 j2 : Nat} (h1 : Eo w c1 i1 j1) (h2 : Eo w c2 i2 j2) : ∃ n, Ex w n c1 i1 j1 ∧ Ex w n c2 i2 j2 := by
  obtain ⟨n1, h1⟩ := h1
  obtain ⟨n2, h2⟩ := h2
  exact ⟨n1 + n2, h1.le (by omega), h2.le (by omega)⟩
theorem Eo.one {c i j : Nat} (hc : c ≤ 6) (h : Eo w c i j) : Eo w (c + 1) i j := by
  obtain ⟨n, h⟩ := h
  refine ⟨n + 1, ?_⟩
  have hc' : c = 0 ∨ c = 1 ∨ c = 2 ∨ c = 3 ∨ c = 4 ∨ c = 5 ∨ c = 6 := by omega
  rcases hc' with q | q | q | q | q | q | q <;> subst q <;> rw [Ex]
  · exact Or.inl h
  · exact Or.inl h
  · exact Or.inl h
  · exact Or.inl h
  · exact Or.inl h
  · exact Or.inl h
  · exact Or.inl h
theorem Eo.six {c i j : Nat} (hc : c ≤ 6) (h : Eo w c i j) : Eo w 6 i j := by
  suffices H : ∀ k c, c + k = 6 → Eo w c i j → Eo w 6 i j from H (6 - c) c (by omega) h
  intro k
  induction k with
  | zero => intro c e h; have : c = 6 := by omega
            subst this; exact h
  | succ k ih => intro c e h; exact ih (c + 1) (by omega) (h.one (by omega))
theorem eo0_leaf {i : Nat} (h : w i = 1 ∨ w i = 2 ∨ w i = 12 ∨ w i = 13) : Eo w 0 i (i + 1) := ⟨1, by rw [Ex]; exact Or.inl ⟨rfl, h⟩⟩
theorem eo0_neg {i j : Nat} (h : w i = 25) (h2 : Eo w 0 (i + 1) j) : Eo w 0 i j := by
  obtain ⟨n, h2⟩ := h2
  exact ⟨n + 1, by rw [Ex]; exact Or.inr (Or.inl ⟨h, h2⟩)⟩
theorem eo0_par {i j : Nat} (h : w i = 36) (h1 : w j = 37) (h2 : Eo w 6 (i + 1) j) : Eo w 0 i (j + 1) := by
  obtain ⟨n, h2⟩ := h2
  exact ⟨n + 1, by rw [Ex]; exact Or.inr (Or.inr (Or.inl ⟨h, h1, h2⟩))⟩
theorem eo0_lst {i j : Nat} (h : w i = 14 ∨ w i = 15) (h0 : w (i + 1) = 36) (h1 : w j = 37) (h2 : Eo w 7 (i + 2) j) : Eo w 0 i (j + 1) := by
  obtain ⟨n, h2⟩ := h2
  exact ⟨n + 1, by rw [Ex]; exact Or.inr (Or.inr (Or.inr ⟨h, h0, h1, h2⟩))⟩
theorem eo1 {i m j : Nat} (h : w m = 26 ∨ w m = 27 ∨ w m = 28) (h1 : Eo w 1 i m) (h2 : Eo w 0 (m + 1) j) : Eo w 1 i j := by
  obtain ⟨n, a, b⟩ := h1.two h2
  exact ⟨n + 1, by rw [Ex]; exact Or.inr ⟨m, h, a, b⟩⟩
theorem eo2 {i m j : Nat} (h : w m = 24 ∨ w m = 25) (h1 : Eo w 2 i m) (h2 : Eo w 1 (m + 1) j) : Eo w 2 i j := by
  obtain ⟨n, a, b⟩ := h1.two h2
  exact ⟨n + 1, by rw [Ex]; exact Or.inr ⟨m, h, a, b⟩⟩
theorem eo3 {i m j : Nat} (h : 18 ≤ w m ∧ w m ≤ 23) (h1 : Eo w 2 i m) (h2 : Eo w 2 (m + 1) j) : Eo w 3 i j := by
  obtain ⟨n, a, b⟩ := h1.two h2
  exact ⟨n + 1, by rw [Ex]; exact Or.inr (Or.inl ⟨m, h, a, b⟩)⟩
theorem eo3n {i j : Nat} (h : w i = 31) (h2 : Eo w 3 (i + 1) j) : Eo w 3 i j := by
  obtain ⟨n, a⟩ := h2
  exact ⟨n + 1, by rw [Ex]; exact Or.inr (Or.inr ⟨h, a⟩)⟩
theorem eo4 {i m j : Nat} (h : w m = 29) (h1 : Eo w 4 i m) (h2 : Eo w 3 (m + 1) j) : Eo w 4 i j := by
  obtain ⟨n, a, b⟩ := h1.two h2
  exact ⟨n + 1, by rw [Ex]; exact Or.inr ⟨m, h, a, b⟩⟩
theorem eo5 {i m j : Nat} (h : w m = 30) (h1 : Eo w 5 i m) (h2 : Eo w 4 (m + 1) j) : Eo w 5 i j := by
  obtain ⟨n, a, b⟩ := h1.two h2
  exact ⟨n + 1, by rw [Ex]; exact Or.inr ⟨m, h, a, b⟩⟩
theorem eo6 {i m q j : Nat} (h : w m = 32) (hq : w q = 33) (h1 : Eo w 5 i m) (h2 : Eo w 6 (m + 1) q) (h3 : Eo w 6 (q + 1) j) : Eo w 6 i j := by
  obtain ⟨n, a, b⟩ := h1.two h2
  obtain ⟨n', c⟩ := h3
  exact ⟨n + n' + 1, by rw [Ex]; exact Or.inr ⟨m, q, h, hq, a.le (by omega), b.le (by omega), c.le (by omega)⟩⟩
theorem eo7 {i m j : Nat} (h : w m = 35) (h1 : Eo w 7 i m) (h2 : Eo w 6 (m + 1) j) : Eo w 7 i j := by
  obtain ⟨n, a, b⟩ := h1.two h2
  exact ⟨n + 1, by rw [Ex]; exact Or.inr ⟨m, h, a, b⟩⟩
end EX
