/-! The reference: where an item ends. -/
section SGM
variable {w : Nat → Int}
/-- parentheses close, no question is open, and no ; stands here -/
def Sg (w : Nat → Int) (i j : Nat) : Prop := i ≤ j ∧ dp w i (j - i) = 0 ∧ aq w i (j - i) ≤ 0 ∧ ∀ m, i ≤ m → m < j → w m ≠ 34
theorem Sg.app {i m j : Nat} (h1 : Sg w i m) (h2 : Sg w m j) : Sg w i j := by
  obtain ⟨a1, a2, a3, a4⟩ := h1
  obtain ⟨b1, b2, b3, b4⟩ := h2
  have e : j - i = (m - i) + (j - m) := by omega
  have ei : i + (m - i) = m := by omega
  refine ⟨by omega, ?_, ?_, fun k k1 k2 => ?_⟩
  · rw [e, dp_app, a2, ei, b2]; omega
  · rw [e, aq_app a2, ei]; omega
  · by_cases z : k < m
    · exact a4 k k1 z
    · exact b4 k (by omega) k2
theorem Sg.w1 {i : Nat} (h1 : w i ≠ 32) (h2 : w i ≠ 34) (h3 : w i ≠ 36) (h4 : w i ≠ 37) : Sg w i (i + 1) := by
  rw [Sg, show i + 1 - i = 0 + 1 by omega, dp_s, aq_s]
  refine ⟨by omega, ?_, ?_, fun m m1 m2 => by rw [show m = i by omega]; exact h2⟩
  · rw [show i + 0 = i by omega, if_neg h3, if_neg h4]; rfl
  · rw [show i + 0 = i by omega, if_neg h1]
    show (if (0 : Int) < 0 then (0 : Int) else 0 + (if w i = 33 then -1 else 0)) ≤ 0
    rw [if_neg (by omega)]
    split <;> omega
theorem Sg.bl {i j : Nat} (hij : i ≤ j) (h : Bl w i (j - i)) : Sg w i j := by
  refine ⟨hij, h.1, by rw [h.2.1]; omega, fun m m1 m2 => ?_⟩
  have := (h.2.2.2 (m - i) (by omega)).1
  rw [show i + (m - i) = m by omega] at this
  unfold rwd at this
  omega
theorem Sg.eo {c i j : Nat} (h : Eo w c i j) : Sg w i j := Sg.bl (by have := h.pr.1; omega) h.pr.2.2.2.2.1
/-- a set in its parentheses -/
theorem Sg.set {p c : Nat} (h0 : w p = 36) (h1 : w (p + 1) = 1) (h2 : w (p + 2) = 38) (h3 : w (p + 3) = 23) (h4 : Eo w 6 (p + 4) c) (h5 : w c = 37) : Sg w p (c + 1) ∧ (∀ m, 1 ≤ m → m ≤ c - p → 1 ≤ dp w p m) ∧ dp w p (c + 1 - p) = 0 := by
  have hlt := h4.pr.1
  have hb := h4.pr.2.2.2.2.1
  have e0 : dp w p 0 = 0 := rfl
  have e1 : dp w p 1 = 1 := by rw [show (1 : Nat) = 0 + 1 by omega, dp_s, show p + 0 = p by omega, if_pos h0, e0]; rfl
  have e2 : dp w p 2 = 1 := by rw [show (2 : Nat) = 1 + 1 by omega, dp_s, if_neg (by omega), if_neg (by omega), e1]; rfl
  have e3 : dp w p 3 = 1 := by rw [show (3 : Nat) = 2 + 1 by omega, dp_s, if_neg (by omega), if_neg (by omega), e2]; rfl
  have e4 : dp w p 4 = 1 := by rw [show (4 : Nat) = 3 + 1 by omega, dp_s, if_neg (by omega), if_neg (by omega), e3]; rfl
  have up : ∀ m, 1 ≤ m → m ≤ c - p → 1 ≤ dp w p m := fun m m1 m2 => by
    by_cases z : m < 4
    · have : m = 1 ∨ m = 2 ∨ m = 3 := by omega
      rcases this with y | y | y <;> rw [y]
      · omega
      · omega
      · omega
    · have := (hb.2.2.1 (m - 4) (by omega)).1
      rw [show m = 4 + (m - 4) by omega, dp_app, e4]
      omega
  have dc : dp w p (c - p) = 1 := by
    rw [show c - p = 4 + (c - (p + 4)) by omega, dp_app, e4, hb.1]; rfl
  have d1 : dp w p (c + 1 - p) = 0 := by
    rw [show c + 1 - p = (c - p) + 1 by omega, dp_s, dc, show p + (c - p) = c by omega, if_neg (by omega), if_pos h5]; rfl
  have a0 : ∀ m, m ≤ c - p → aq w p (m + 1) = 0 := by
    intro m
    induction m with
    | zero =>
      intro _
      rw [aq_s, e0, if_neg (by omega), show p + 0 = p by omega, if_neg (by omega), if_neg (by omega)]; rfl
    | succ m ih =>
      intro hm
      rw [aq_s, if_pos (by have := up (m + 1) (by omega) hm; omega)]
      exact ih (by omega)
  refine ⟨⟨by omega, d1, ?_, fun m m1 m2 => ?_⟩, up, d1⟩
  · rw [show c + 1 - p = (c - p) + 1 by omega, a0 (c - p) (Nat.le_refl _)]
    omega
  · by_cases z : m < p + 4
    · have : m = p ∨ m = p + 1 ∨ m = p + 2 ∨ m = p + 3 := by omega
      rcases this with y | y | y | y <;> rw [y] <;> omega
    · by_cases y : m = c
      · rw [y]; omega
      · exact (Sg.eo h4).2.2.2 m (by omega) (by omega)
theorem Se.sg : ∀ {f p q : Nat}, Se w f p q → Sg w p q := by
  intro f
  induction f with
  | zero => intro p q h; exact h.elim
  | succ f ih =>
    intro p q h
    obtain ⟨h0, h1, h2, h3, c, h4, h5, h6⟩ := h
    have s := (Sg.set h0 h1 h2 h3 h4 h5).1
    rcases h6 with ⟨z, -⟩ | ⟨z, y⟩
    · rw [z]; exact s
    · exact (s.app (Sg.w1 (by omega) (by omega) (by omega) (by omega))).app (ih y)
theorem Ss.sg {p s : Nat} (h : Ss w p s) : Sg w p s := by
  rcases h with ⟨h1, h2⟩ | ⟨-, f, h⟩
  · rw [h2]; exact Sg.w1 (by omega) (by omega) (by omega) (by omega)
  · exact h.sg
theorem Br.sg : ∀ {f p e : Nat}, Br w f p e → Sg w p e := by
  intro f
  induction f with
  | zero => intro p q h; exact h.elim
  | succ f ih =>
    intro p e h
    obtain ⟨q, s, h1, h2, h3, h4⟩ := h
    have k := ((Sg.eo h1).app (Sg.w1 (by omega) (by omega) (by omega) (by omega))).app h3.sg
    rcases h4 with ⟨z, -⟩ | ⟨z, y⟩
    · rw [← z]; exact k
    · exact (k.app (Sg.w1 (by omega) (by omega) (by omega) (by omega))).app (ih y)
theorem Vs.sg {p i : Nat} (h : Vs w p i) : Sg w p i := by
  rcases h with ⟨h1, h2⟩ | ⟨-, j, h1, h2, h3⟩
  · rw [h2]; exact Sg.w1 (by omega) (by omega) (by omega) (by omega)
  · exact ((Sg.eo h1).app (Sg.w1 (by omega) (by omega) (by omega) (by omega))).app (Sg.eo h3)
theorem It.sg {k e : Nat} (h : It w k e) : Sg w k e := by
  obtain ⟨-, -, h⟩ := h
  have w3 : ∀ {i : Nat}, (w k ≠ 32 ∧ w k ≠ 34 ∧ w k ≠ 36 ∧ w k ≠ 37) → w (k + 1) = 1 → (w (k + 2) = 23 ∨ w (k + 2) = 33) → Sg w (k + 3) i → Sg w k i := fun h0 h1 h2 h3 => (((Sg.w1 (i := k) h0.1 h0.2.1 h0.2.2.1 h0.2.2.2).app (Sg.w1 (i := k + 1) (by omega) (by omega) (by omega) (by omega))).app (Sg.w1 (i := k + 2) (by omega) (by omega) (by omega) (by omega))).app h3
  rcases h with ⟨h0, h1, h2, h3⟩ | ⟨h0, h1, h2, i, h3, h4⟩ | ⟨h0, j, f, h1, h2, h3⟩ | ⟨h0, h1⟩
  · exact w3 ⟨by omega, by omega, by omega, by omega⟩ h1 (Or.inl h2) (Sg.eo h3)
  · have s := w3 ⟨by omega, by omega, by omega, by omega⟩ h1 (Or.inr h2) h3.sg
    rcases h4 with ⟨-, z⟩ | ⟨z, y⟩
    · rw [← z]; exact s
    · exact (s.app (Sg.w1 (i := i) (by omega) (by omega) (by omega) (by omega))).app (Sg.eo y)
  · exact (((Sg.w1 (i := k) (by omega) (by omega) (by omega) (by omega)).app (Sg.eo h1)).app (Sg.w1 (i := j) (by omega) (by omega) (by omega) (by omega))).app h3.sg
  · exact (Sg.w1 (i := k) (by omega) (by omega) (by omega) (by omega)).app (Sg.eo h1)
end SGM
section UNT
variable {G : mG} {d a N : Nat} {M : mM}
theorem s_until_end {k e : Nat} (hO : mOk M) (h : Wn M a N) (hi : It (wk M a) k e) (he : e < N) : Ci G y_MM_until (d + 2) [vr a, vi k, vi 34] M (fun x M' => M' = M ∧ x = e) := by
  have s := hi.sg
  exact s_MM_until ⟨by decide, by decide⟩ hO h s.1 he hi.1 (by rw [s.2.1]; omega) s.2.2.1 (fun t ht q => s.2.2.2 (k + t) (by omega) (by omega) q.1)
theorem s_until_bl {i j : Nat} {s : Int} (hO : mOk M) (h : Wn M a N) (hij : i ≤ j) (hb : Bl (wk M a) i (j - i)) (hj : j < N) (h1 : wk M a j = s) (hs : s = 16 ∨ s = 17 ∨ s = 33) : Ci G y_MM_until (d + 2) [vr a, vi i, vi s] M (fun x M' => M' = M ∧ x = j) := by
  refine s_MM_until ⟨by omega, by omega⟩ hO h hij hj h1 (by rw [hb.1]; omega) (by rw [hb.2.1]; omega) (fun t ht q => ?_)
  obtain ⟨q1, q2, q3⟩ := q
  have b := hb.2.2.1 t (by omega)
  have c := hb.2.2.2 t ht
  rcases hs with z | z | z
  · have := c.1; unfold rwd at this; omega
  · have := c.1; unfold rwd at this; omega
  · exact c.2 (by omega) (by omega) (by omega)
end UNT
