/-! The reference: an expression is split into expressions. -/
section SP
variable {w : Nat → Int}
/-- a question; an operator; parentheses; a sign before; a leaf; a list -/
def spQ (w : Nat → Int) (i j : Nat) : Prop := (∃ m q : Nat, lo w i j = (m : Int) ∧ w m = 32 ∧ w q = 33 ∧ Eo w 5 i m ∧ Eo w 6 (m + 1) q ∧ Eo w 6 (q + 1) j)
  ∨ (∃ m : Nat, lo w i j = (m : Int) ∧ ((24 ≤ w m ∧ w m ≤ 30) ∨ (18 ≤ w m ∧ w m ≤ 23)) ∧ Eo w 6 i m ∧ Eo w 6 (m + 1) j)
  ∨ (lo w i j = -1 ∧ w i = 36 ∧ w (j - 1) = 37 ∧ Eo w 6 (i + 1) (j - 1))
  ∨ (lo w i j = -1 ∧ (w i = 25 ∨ w i = 31) ∧ Eo w 6 (i + 1) j)
  ∨ (lo w i j = -1 ∧ j = i + 1 ∧ (w i = 1 ∨ w i = 2 ∨ w i = 12 ∨ w i = 13))
  ∨ (lo w i j = -1 ∧ (w i = 14 ∨ w i = 15) ∧ w (i + 1) = 36 ∧ w (j - 1) = 37 ∧ Eo w 7 (i + 2) (j - 1))
theorem lo_op {c c1 c2 i m j : Nat} (h1 : Pr w c1 i m) (h2 : Pr w c2 (m + 1) j) (hc : 0 < c) (hc1 : c1 ≤ c) (hc2 : c2 ≤ c) (hc26 : c < 6 → c2 < c) (hc16 : c = 6 → c1 ≤ 5) (hop : (24 ≤ w m ∧ w m ≤ 32) ∨ (18 ≤ w m ∧ w m ≤ 23)) (hl : lz w i m = c) (hn : w i = 31 → 4 ≤ c) : lo w i j = (m : Int) := by
  obtain ⟨p1, p2, p3, p4, p5, p6, p7⟩ := h1
  obtain ⟨q1, q2, q3, q4, q5, q6, q7⟩ := h2
  have em : i + (m - i) = m := by omega
  have hb : bh w i (j - i) = ((m : Int), c) := by
    rw [show j - i = (m - i) + 1 + (j - (m + 1)) by omega]
    have hr := Lb.right (i := i) (a := m - i) (b := j - (m + 1)) (c2 := c2) p5 (by rw [em]; exact q7) (by rw [em]; omega) (by rw [em]; omega) (by rw [em]; unfold opd; omega) (by rw [em]; exact q2)
    have hm0 : ll w i (m - i) = c := by
      unfold ll
      rw [if_pos p5.1, em, hl]
    have k := bh_max (w := w) (i := i) (a := m - i) hc (fun k hk => by have := lb_ll p7 hk; omega) hm0 (j - (m + 1)) (fun k k1 k2 => by have := hr k k1 k2; exact ⟨by omega, fun z => by have := hc26 z; omega⟩) (fun z k hk => by have := lb_ll p7 hk; have := hc16 z; omega)
    rw [em] at k
    exact k
  unfold lo
  rw [hb, if_neg]
  show ¬ (w i = 31 ∧ c < 4)
  intro q
  have := hn q.1
  omega
theorem lo_none {i j : Nat} (h : Pr w 0 i j) : lo w i j = -1 := by
  have hb : bh w i (j - i) = (-1, 0) := bh_none _ (fun k hk => by have := lb_ll h.2.2.2.2.2.2 hk; omega)
  unfold lo
  rw [hb]
  split <;> rfl
theorem lo_not {i j : Nat} (h : Pr w 3 i j) (h31 : w i = 31) : lo w i j = -1 := by
  have hb := bh_le (w := w) (i := i) (c := 3) (j - i) (fun k hk => lb_ll h.2.2.2.2.2.2 hk)
  unfold lo
  rw [if_pos ⟨h31, by omega⟩]
theorem ex_sp : ∀ {n c i j : Nat}, c ≤ 6 → Ex w n c i j → spQ w i j := by
  intro n
  induction n with
  | zero => intro c i j _ h; exact h.elim
  | succ n ih =>
    intro c i j hc h
    have hp := ex_pr h
    rw [Ex] at h
    by_cases c0 : c = 0
    · rw [if_pos c0] at h
      subst c0
      have hlo := lo_none hp
      rcases h with ⟨h1, h2⟩ | ⟨h1, h2⟩ | ⟨h1, h2, h3⟩ | ⟨h1, h2, h3, h4⟩
      · exact Or.inr (Or.inr (Or.inr (Or.inr (Or.inl ⟨hlo, h1, h2⟩))))
      · exact Or.inr (Or.inr (Or.inr (Or.inl ⟨hlo, Or.inl h1, Eo.six (by omega) ⟨n, h2⟩⟩)))
      · exact Or.inr (Or.inr (Or.inl ⟨hlo, h1, h2, ⟨n, h3⟩⟩))
      · exact Or.inr (Or.inr (Or.inr (Or.inr (Or.inr ⟨hlo, h1, h2, h3, ⟨n, h4⟩⟩))))
    rw [if_neg c0] at h
    by_cases c1 : c = 1
    · rw [if_pos c1] at h
      subst c1
      rcases h with h | ⟨m, h1, h2, h3⟩
      · exact ih (by omega) h
      · exact Or.inr (Or.inl ⟨m, lo_op (c := 1) (ex_pr h2) (ex_pr h3) (by omega) (by omega) (by omega) (fun _ => by omega) (fun _ => by omega) (by omega) (lz_26 (by omega)) (fun q => absurd q ((ex_pr h2).2.2.1 (by omega))), by omega, Eo.six (by omega) ⟨n, h2⟩, Eo.six (by omega) ⟨n, h3⟩⟩)
    rw [if_neg c1] at h
    by_cases c2 : c = 2
    · rw [if_pos c2] at h
      subst c2
      rcases h with h | ⟨m, h1, h2, h3⟩
      · exact ih (by omega) h
      · exact Or.inr (Or.inl ⟨m, lo_op (c := 2) (ex_pr h2) (ex_pr h3) (by omega) (by omega) (by omega) (fun _ => by omega) (fun _ => by omega) (by omega) (lz_24 h1 (ex_pr h2).1 (ex_pr h2).2.2.2.1) (fun q => absurd q ((ex_pr h2).2.2.1 (by omega))), by omega, Eo.six (by omega) ⟨n, h2⟩, Eo.six (by omega) ⟨n, h3⟩⟩)
    rw [if_neg c2] at h
    by_cases c3 : c = 3
    · rw [if_pos c3] at h
      subst c3
      rcases h with h | ⟨m, h1, h2, h3⟩ | ⟨h1, h2⟩
      · exact ih (by omega) h
      · exact Or.inr (Or.inl ⟨m, lo_op (c := 3) (ex_pr h2) (ex_pr h3) (by omega) (by omega) (by omega) (fun _ => by omega) (fun _ => by omega) (by omega) (lz_18 h1) (fun q => absurd q ((ex_pr h2).2.2.1 (by omega))), by omega, Eo.six (by omega) ⟨n, h2⟩, Eo.six (by omega) ⟨n, h3⟩⟩)
      · exact Or.inr (Or.inr (Or.inr (Or.inl ⟨lo_not hp h1, Or.inr h1, Eo.six (by omega) ⟨n, h2⟩⟩)))
    rw [if_neg c3] at h
    by_cases c4 : c = 4
    · rw [if_pos c4] at h
      subst c4
      rcases h with h | ⟨m, h1, h2, h3⟩
      · exact ih (by omega) h
      · exact Or.inr (Or.inl ⟨m, lo_op (c := 4) (ex_pr h2) (ex_pr h3) (by omega) (by omega) (by omega) (fun _ => by omega) (fun _ => by omega) (by omega) (lz_29 h1) (fun _ => by omega), by omega, Eo.six (by omega) ⟨n, h2⟩, Eo.six (by omega) ⟨n, h3⟩⟩)
    rw [if_neg c4] at h
    by_cases c5 : c = 5
    · rw [if_pos c5] at h
      subst c5
      rcases h with h | ⟨m, h1, h2, h3⟩
      · exact ih (by omega) h
      · exact Or.inr (Or.inl ⟨m, lo_op (c := 5) (ex_pr h2) (ex_pr h3) (by omega) (by omega) (by omega) (fun _ => by omega) (fun _ => by omega) (by omega) (lz_30 h1) (fun _ => by omega), by omega, Eo.six (by omega) ⟨n, h2⟩, Eo.six (by omega) ⟨n, h3⟩⟩)
    rw [if_neg c5] at h
    by_cases c6 : c = 6
    · rw [if_pos c6] at h
      subst c6
      rcases h with h | ⟨m, q, h1, h2, h3, h4, h5⟩
      · exact ih (by omega) h
      · -- the right side of the question, up to the end
        have p5 := ex_pr h3
        have p6 := ex_pr h4
        have p7 := ex_pr h5
        have hq5 := p5.2.2.2.2.1
        have hlo : lo w i j = (m : Int) := by
          have em : i + (m - i) = m := by have := p5.1; omega
          have hb : bh w i (j - i) = ((m : Int), 6) := by
            have hm1 := p5.1
            have hq1 := p6.1
            have hj1 := p7.1
            rw [show j - i = (m - i) + 1 + (j - (m + 1)) by omega]
            have hm0 : ll w i (m - i) = 6 := by
              unfold ll
              rw [if_pos hq5.1, em, lz_32 h1]
            have k := bh_max (w := w) (i := i) (a := m - i) (c := 6) (by omega) (fun k hk => by have := lb_ll p5.2.2.2.2.2.2 hk; omega) hm0 (j - (m + 1)) (fun k k1 k2 => ⟨by unfold ll; have := lz_le (w := w) (i := i) (k := i + k); split <;> omega, fun z => by omega⟩) (fun z k hk => by have := lb_ll p5.2.2.2.2.2.2 hk; omega)
            rw [em] at k
            exact k
          unfold lo
          rw [hb, if_neg]
          show ¬ (w i = 31 ∧ 6 < 4)
          omega
        exact Or.inl ⟨m, q, hlo, h1, h2, ⟨n, h3⟩, ⟨n, h4⟩, ⟨n, h5⟩⟩
    · omega
theorem Eo.sp {i j : Nat} (h : Eo w 6 i j) : spQ w i j := by
  obtain ⟨n, h⟩ := h
  exact ex_sp (by omega) h
/-- a list: its last part, and what is before -/
theorem Eo.lst {i j : Nat} (h : Eo w 7 i j) : Eo w 6 i j ∨ ∃ m, w m = 35 ∧ Eo w 7 i m ∧ Eo w 6 (m + 1) j := by
  obtain ⟨n, h⟩ := h
  cases n with
  | zero => exact h.elim
  | succ n =>
    have h' : Ex w (n + 1) 7 i j := h
    rw [Ex] at h'
    have h'' : Ex w n 6 i j ∨ ∃ m, w m = 35 ∧ Ex w n 7 i m ∧ Ex w n 6 (m + 1) j := h'
    rcases h'' with h | ⟨m, h1, h2, h3⟩
    · exact Or.inl ⟨n, h⟩
    · exact Or.inr ⟨m, h1, ⟨n, h2⟩, ⟨n, h3⟩⟩
end SP
