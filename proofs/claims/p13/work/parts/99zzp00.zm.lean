/-! The reference: the items of a text. -/
section ITM
variable {w : Nat → Int} {n : Nat}
theorem ac_le : ∀ {f : Nat} {l : List Int} {k : Nat}, Ac w n f l k → k ≤ n := by
  intro f
  induction f with
  | zero => intro l k h; exact Nat.le_of_eq h.2
  | succ f ih =>
    intro l k h
    cases l with
    | nil => exact h.elim
    | cons x r =>
      have h' : (if x = 75 then Ac w n f r k else if x < 50 then w k = x ∧ Ac w n f r (k + 1) else ∃ ys t, ex x (w k) = some (ys, t) ∧ Ac w n f (ys ++ r) (k + t)) := h
      by_cases c1 : x = 75
      · rw [if_pos c1] at h'; exact ih h'
      · rw [if_neg c1] at h'
        by_cases c2 : x < 50
        · rw [if_pos c2] at h'; have := ih h'.2; omega
        · rw [if_neg c2] at h'
          obtain ⟨ys, t, e, a⟩ := h'
          have := ih a
          omega
/-- sets, joined by & -/
def Se (w : Nat → Int) : Nat → Nat → Nat → Prop
  | 0, _, _ => False
  | f + 1, p, q => w p = 36 ∧ w (p + 1) = 1 ∧ w (p + 2) = 38 ∧ w (p + 3) = 23 ∧ ∃ c, Eo w 6 (p + 4) c ∧ w c = 37 ∧ ((q = c + 1 ∧ w (c + 1) ≠ 29) ∨ (w (c + 1) = 29 ∧ Se w f (c + 2) q))
def Ss (w : Nat → Int) (p s : Nat) : Prop := (w p = 10 ∧ s = p + 1) ∨ (w p ≠ 10 ∧ ∃ f, Se w f p s)
/-- branches, joined by + -/
def Br (w : Nat → Int) : Nat → Nat → Nat → Prop
  | 0, _, _ => False
  | f + 1, p, e => ∃ q s, Eo w 5 p q ∧ w q = 33 ∧ Ss w (q + 1) s ∧ ((s = e ∧ w s ≠ 24) ∨ (w s = 24 ∧ Br w f (s + 1) e))
def Vs (w : Nat → Int) (p i : Nat) : Prop := (w p = 5 ∧ i = p + 1) ∨ (w p ≠ 5 ∧ ∃ j, Eo w 6 p j ∧ w j = 16 ∧ Eo w 6 (j + 1) i)
/-- an item from k to its end at e -/
def It (w : Nat → Int) (k e : Nat) : Prop := w e = 34 ∧ k < e ∧ (((w k = 3 ∨ w k = 6) ∧ w (k + 1) = 1 ∧ w (k + 2) = 23 ∧ Eo w 6 (k + 3) e) ∨ (w k = 4 ∧ w (k + 1) = 1 ∧ w (k + 2) = 33 ∧ ∃ i, Vs w (k + 3) i ∧ ((w i ≠ 9 ∧ i = e) ∨ (w i = 9 ∧ Eo w 6 (i + 1) e))) ∨ ((w k = 7 ∨ w k = 8) ∧ ∃ j f, Eo w 6 (k + 1) j ∧ w j = 17 ∧ Br w f (j + 1) e) ∨ (w k = 11 ∧ Eo w 6 (k + 1) e))
theorem ac_set : ∀ {f k : Nat} {r : List Int}, Ac w n f (59 :: 60 :: r) k → ∃ s g f', g < f ∧ k < s ∧ Se w f' k s ∧ Ac w n g r s := by
  intro f
  induction f using Nat.strongRecOn with
  | ind f ih =>
    intro k r h
    obtain ⟨g, ys, t, hg, e, a⟩ := ac_n (by omega) (by omega) h
    rw [ex_59] at e
    unfold ex59 at e
    by_cases c1 : w k = 36
    · rw [if_pos c1] at e
      cases e
      have a' : Ac w n g (1 :: 38 :: 23 :: 61 :: 37 :: 75 :: 60 :: r) (k + 1) := a
      obtain ⟨g1, l1, d1, a1⟩ := ac_t (by omega) a'
      obtain ⟨g2, l2, d2, a2⟩ := ac_t (by omega) a1
      obtain ⟨g3, l3, d3, a3⟩ := ac_t (by omega) a2
      obtain ⟨c, g4, l4, m4, e4, a4⟩ := ac_rule a3
      obtain ⟨g5, l5, d5, a5⟩ := ac_t (by omega) a4
      obtain ⟨g6, l6, a6⟩ := ac_l a5
      obtain ⟨g7, ys7, t7, l7, e7, a7⟩ := ac_n (by omega) (by omega) a6
      rw [ex_60] at e7
      unfold ex60 at e7
      by_cases c2 : w (c + 1) = 29
      · rw [if_pos c2] at e7
        cases e7
        have a7' : Ac w n g7 (59 :: 60 :: r) (c + 2) := a7
        obtain ⟨s, g8, f8, l8, m8, s8, a8⟩ := ih g7 (by omega) a7'
        exact ⟨s, g8, f8 + 1, by omega, by omega, ⟨c1, d1, d2, d3, c, e4, d5, Or.inr ⟨c2, s8⟩⟩, a8⟩
      · rw [if_neg c2] at e7
        cases e7
        exact ⟨c + 1, g7, 1, by omega, by omega, ⟨c1, d1, d2, d3, c, e4, d5, Or.inl ⟨rfl, c2⟩⟩, a7⟩
    · rw [if_neg c1] at e
      cases e
theorem ac_sets {f k : Nat} {r : List Int} (h : Ac w n f (58 :: r) k) : ∃ s g, g < f ∧ k < s ∧ Ss w k s ∧ Ac w n g r s := by
  obtain ⟨g, ys, t, hg, e, a⟩ := ac_n (by omega) (by omega) h
  rw [ex_58] at e
  unfold ex58 at e
  by_cases c1 : w k = 10
  · rw [if_pos c1] at e
    cases e
    exact ⟨k + 1, g, hg, by omega, Or.inl ⟨c1, rfl⟩, a⟩
  · rw [if_neg c1] at e
    cases e
    have a' : Ac w n g (59 :: 60 :: r) k := a
    obtain ⟨s, g1, f1, l1, m1, s1, a1⟩ := ac_set a'
    exact ⟨s, g1, by omega, m1, Or.inr ⟨c1, f1, s1⟩, a1⟩
theorem ac_branches : ∀ {f k : Nat} {r : List Int}, Ac w n f (56 :: 57 :: r) k → ∃ e g f', g < f ∧ k < e ∧ Br w f' k e ∧ Ac w n g r e := by
  intro f
  induction f using Nat.strongRecOn with
  | ind f ih =>
    intro k r h
    obtain ⟨g, ys, t, hg, e, a⟩ := ac_n (by omega) (by omega) h
    rw [ex_56] at e
    unfold ex56 at e
    cases e
    have a' : Ac w n g (63 :: 33 :: 58 :: 57 :: r) k := a
    obtain ⟨q, g1, l1, m1, e1, a1⟩ := ac_or a'
    obtain ⟨g2, l2, d2, a2⟩ := ac_t (by omega) a1
    obtain ⟨s, g3, l3, m3, s3, a3⟩ := ac_sets a2
    obtain ⟨g4, ys4, t4, l4, e4, a4⟩ := ac_n (by omega) (by omega) a3
    rw [ex_57] at e4
    unfold ex57 at e4
    by_cases c1 : w s = 24
    · rw [if_pos c1] at e4
      cases e4
      have a4' : Ac w n g4 (56 :: 57 :: r) (s + 1) := a4
      obtain ⟨e5, g5, f5, l5, m5, b5, a5⟩ := ih g4 (by omega) a4'
      exact ⟨e5, g5, f5 + 1, by omega, by omega, ⟨q, s, e1, d2, s3, Or.inr ⟨c1, b5⟩⟩, a5⟩
    · rw [if_neg c1] at e4
      cases e4
      exact ⟨s, g4, 1, by omega, by omega, ⟨q, s, e1, d2, s3, Or.inl ⟨rfl, c1⟩⟩, a4⟩
/-- the next item -/
theorem ac_item {f k : Nat} (h : Ac w n f [50] k) : (w k = 0 ∧ k + 1 = n) ∨ (w k ≠ 0 ∧ ∃ e g, g < f ∧ It w k e ∧ Ac w n g [50] (e + 1)) := by
  obtain ⟨g, ys, t, hg, e, a⟩ := ac_n (by omega) (by omega) h
  rw [ex_50] at e
  unfold ex50 at e
  by_cases c0 : w k = 0
  · rw [if_pos c0] at e
    cases e
    have a' : Ac w n g [] (k + 1) := a
    cases g with
    | zero => exact Or.inl ⟨c0, a'.2⟩
    | succ g => exact a'.elim
  rw [if_neg c0] at e
  refine Or.inr ⟨c0, ?_⟩
  by_cases c1 : w k = 3 ∨ w k = 6
  · rw [if_pos c1] at e
    cases e
    have a' : Ac w n g (51 :: 34 :: [50]) (k + 1) := a
    obtain ⟨g1, ys1, t1, l1, e1, a1⟩ := ac_n (by omega) (by omega) a'
    rw [ex_51] at e1
    unfold ex51 at e1
    cases e1
    have a1' : Ac w n g1 (1 :: 23 :: 61 :: 34 :: [50]) (k + 1) := a1
    obtain ⟨g2, l2, d2, a2⟩ := ac_t (by omega) a1'
    obtain ⟨g3, l3, d3, a3⟩ := ac_t (by omega) a2
    obtain ⟨j, g4, l4, m4, e4, a4⟩ := ac_rule a3
    obtain ⟨g5, l5, d5, a5⟩ := ac_t (by omega) a4
    exact ⟨j, g5, by omega, ⟨d5, by omega, Or.inl ⟨c1, d2, d3, e4⟩⟩, a5⟩
  rw [if_neg c1] at e
  by_cases c2 : w k = 4
  · rw [if_pos c2] at e
    cases e
    have a' : Ac w n g (1 :: 33 :: 53 :: 54 :: 34 :: [50]) (k + 1) := a
    obtain ⟨g2, l2, d2, a2⟩ := ac_t (by omega) a'
    obtain ⟨g3, l3, d3, a3⟩ := ac_t (by omega) a2
    have hv : ∃ i g4, g4 < g3 ∧ k + 3 < i ∧ Vs w (k + 3) i ∧ Ac w n g4 (54 :: 34 :: [50]) i := by
      obtain ⟨g4, ys4, t4, l4, e4, a4⟩ := ac_n (by omega) (by omega) a3
      rw [ex_53] at e4
      unfold ex53 at e4
      by_cases c3 : w (k + 3) = 5
      · rw [if_pos c3] at e4
        cases e4
        exact ⟨k + 4, g4, l4, by omega, Or.inl ⟨c3, rfl⟩, a4⟩
      · rw [if_neg c3] at e4
        cases e4
        have a4' : Ac w n g4 (61 :: 16 :: 61 :: 54 :: 34 :: [50]) (k + 3) := a4
        obtain ⟨j, g5, l5, m5, e5, a5⟩ := ac_rule a4'
        obtain ⟨g6, l6, d6, a6⟩ := ac_t (by omega) a5
        obtain ⟨i, g7, l7, m7, e7, a7⟩ := ac_rule a6
        exact ⟨i, g7, by omega, by omega, Or.inr ⟨c3, j, e5, d6, e7⟩, a7⟩
    obtain ⟨i, g4, l4, m4, v4, a4⟩ := hv
    obtain ⟨g5, ys5, t5, l5, e5, a5⟩ := ac_n (by omega) (by omega) a4
    rw [ex_54] at e5
    unfold ex54 at e5
    by_cases c4 : w i = 9
    · rw [if_pos c4] at e5
      cases e5
      have a5' : Ac w n g5 (61 :: 34 :: [50]) (i + 1) := a5
      obtain ⟨j, g6, l6, m6, e6, a6⟩ := ac_rule a5'
      obtain ⟨g7, l7, d7, a7⟩ := ac_t (by omega) a6
      exact ⟨j, g7, by omega, ⟨d7, by omega, Or.inr (Or.inl ⟨c2, d2, d3, i, v4, Or.inr ⟨c4, e6⟩⟩)⟩, a7⟩
    · rw [if_neg c4] at e5
      cases e5
      have a5' : Ac w n g5 (34 :: [50]) i := a5
      obtain ⟨g7, l7, d7, a7⟩ := ac_t (by omega) a5'
      exact ⟨i, g7, by omega, ⟨d7, by omega, Or.inr (Or.inl ⟨c2, d2, d3, i, v4, Or.inl ⟨c4, rfl⟩⟩)⟩, a7⟩
  rw [if_neg c2] at e
  by_cases c3 : w k = 7 ∨ w k = 8
  · rw [if_pos c3] at e
    cases e
    have a' : Ac w n g (61 :: 17 :: 56 :: 57 :: 34 :: [50]) (k + 1) := a
    obtain ⟨j, g1, l1, m1, e1, a1⟩ := ac_rule a'
    obtain ⟨g2, l2, d2, a2⟩ := ac_t (by omega) a1
    obtain ⟨e3, g3, f3, l3, m3, b3, a3⟩ := ac_branches a2
    obtain ⟨g4, l4, d4, a4⟩ := ac_t (by omega) a3
    exact ⟨e3, g4, by omega, ⟨d4, by omega, Or.inr (Or.inr (Or.inl ⟨c3, j, f3, e1, d2, b3⟩))⟩, a4⟩
  rw [if_neg c3] at e
  by_cases c4 : w k = 11
  · rw [if_pos c4] at e
    cases e
    have a' : Ac w n g (61 :: 34 :: [50]) (k + 1) := a
    obtain ⟨j, g1, l1, m1, e1, a1⟩ := ac_rule a'
    obtain ⟨g2, l2, d2, a2⟩ := ac_t (by omega) a1
    exact ⟨j, g2, by omega, ⟨d2, by omega, Or.inr (Or.inr (Or.inr ⟨c4, e1⟩))⟩, a2⟩
  rw [if_neg c4] at e
  cases e
end ITM
