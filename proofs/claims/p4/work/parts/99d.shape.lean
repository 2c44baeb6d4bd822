/-! The reference: the shape of an expression's words. -/
section SH
variable {w : Nat → Int}
theorem Bl.ask {i a b c : Nat} (h1 : Bl w i a) (h2 : Bl w (i + a + 1) b) (h3 : Bl w (i + a + 1 + b + 1) c) (hp : w (i + a) = 32) (hq : w (i + a + 1 + b) = 33) : Bl w i (a + 1 + b + 1 + c) := by
  have d1 : dp w i (a + 1) = 0 := by rw [dp_s, if_neg (by omega), if_neg (by omega), h1.1]; omega
  have a1 : aq w i (a + 1) = 1 := by rw [aq_s, h1.1, if_neg (by omega), if_pos hp, h1.2.1]; omega
  have e : i + (a + 1) = i + a + 1 := by omega
  have d2 : dp w i (a + 1 + b) = 0 := by rw [dp_app, d1, e, h2.1]; omega
  have a2 : aq w i (a + 1 + b) = 1 := by rw [aq_app d1, a1, e, h2.2.1]; omega
  have e2 : i + (a + 1 + b) = i + a + 1 + b := by omega
  have d3 : dp w i (a + 1 + b + 1) = 0 := by rw [dp_s, e2, if_neg (by omega), if_neg (by omega), d2]; omega
  have a3 : aq w i (a + 1 + b + 1) = 0 := by rw [aq_s, d2, if_neg (by omega), e2, if_neg (by omega), if_pos hq, a2]; omega
  have e3 : i + (a + 1 + b + 1) = i + a + 1 + b + 1 := by omega
  refine ⟨by rw [dp_app, d3, e3, h3.1]; omega, by rw [aq_app d3, a3, e3, h3.2.1]; omega, fun m hm => ?_, fun m hm => ?_⟩
  · by_cases z : m ≤ a
    · exact h1.2.2.1 m z
    · by_cases y : m ≤ a + 1 + b
      · have k := h2.2.2.1 (m - (a + 1)) (by omega)
        rw [show m = (a + 1) + (m - (a + 1)) by omega, dp_app, aq_app d1, d1, a1, e]
        omega
      · have k := h3.2.2.1 (m - (a + 1 + b + 1)) (by omega)
        rw [show m = (a + 1 + b + 1) + (m - (a + 1 + b + 1)) by omega, dp_app, aq_app d3, d3, a3, e3]
        omega
  · by_cases z : m < a
    · exact h1.2.2.2 m z
    · by_cases y : m = a
      · rw [y, hp]; exact ⟨by unfold rwd; omega, fun _ _ => by omega⟩
      · by_cases x : m < a + 1 + b
        · have k := h2.2.2.2 (m - (a + 1)) (by omega)
          have p := h2.2.2.1 (m - (a + 1)) (by omega)
          rw [show i + a + 1 + (m - (a + 1)) = i + m by omega] at k
          refine ⟨k.1, fun q1 q2 => ?_⟩
          rw [show m = (a + 1) + (m - (a + 1)) by omega, aq_app d1, a1, e] at q2
          omega
        · by_cases v : m = a + 1 + b
          · rw [v, e2, hq]
            exact ⟨by unfold rwd; omega, fun _ q2 => by omega⟩
          · have k := h3.2.2.2 (m - (a + 1 + b + 1)) (by omega)
            rw [show i + a + 1 + b + 1 + (m - (a + 1 + b + 1)) = i + m by omega] at k
            refine ⟨k.1, fun q1 q2 => k.2 ?_ ?_⟩
            · rw [show m = (a + 1 + b + 1) + (m - (a + 1 + b + 1)) by omega, dp_app, d3, e3] at q1
              omega
            · rw [show m = (a + 1 + b + 1) + (m - (a + 1 + b + 1)) by omega, aq_app d3, a3, e3] at q2
              omega
theorem lz_le {i k : Nat} : lz w i k ≤ 6 := by
  unfold lz
  by_cases c1 : w k = 32
  · rw [if_pos c1]; omega
  rw [if_neg c1]
  by_cases c2 : w k = 30
  · rw [if_pos c2]; omega
  rw [if_neg c2]
  by_cases c3 : w k = 29
  · rw [if_pos c3]; omega
  rw [if_neg c3]
  by_cases c4 : 18 ≤ w k ∧ w k ≤ 23
  · rw [if_pos c4]; omega
  rw [if_neg c4]
  by_cases c5 : w k = 24 ∨ w k = 25
  · rw [if_pos c5]; split <;> omega
  rw [if_neg c5]
  split <;> omega
theorem lz_c {i i' k : Nat} (h : i < k) (h' : i' < k) : lz w i k = lz w i' k := by
  unfold lz
  have e : (i < k ∧ (w (k - 1) = 1 ∨ w (k - 1) = 2 ∨ w (k - 1) = 12 ∨ w (k - 1) = 13 ∨ w (k - 1) = 37)) ↔ (i' < k ∧ (w (k - 1) = 1 ∨ w (k - 1) = 2 ∨ w (k - 1) = 12 ∨ w (k - 1) = 13 ∨ w (k - 1) = 37)) := ⟨fun q => ⟨h', q.2⟩, fun q => ⟨h, q.2⟩⟩
  simp only [e]
theorem lz_f {i k : Nat} (h : fwd (w k)) (h2 : i < k → ¬ opd (w (k - 1))) : lz w i k = 0 := by
  unfold fwd at h
  unfold lz
  rw [if_neg (by omega), if_neg (by omega), if_neg (by omega), if_neg (by omega)]
  by_cases c5 : w k = 24 ∨ w k = 25
  · rw [if_pos c5, if_neg (fun q => h2 q.1 q.2)]
  · rw [if_neg c5, if_neg (by omega)]
def Lb (w : Nat → Int) (c i l : Nat) : Prop := ∀ m, m < l → dp w i m = 0 → lz w i (i + m) ≤ c
theorem Lb.join {i a b c c1 c2 : Nat} (b1 : Bl w i a) (h1 : Lb w c1 i a) (h2 : Lb w c2 (i + a + 1) b) (hc1 : c1 ≤ c) (hc2 : c2 ≤ c) (hb : 0 < b) (h36 : w (i + a) ≠ 36) (h37 : w (i + a) ≠ 37) (hop : lz w i (i + a) ≤ c) (hno : ¬ opd (w (i + a))) (hf : fwd (w (i + a + 1))) : Lb w c i (a + 1 + b) := by
  have d1 : dp w i (a + 1) = 0 := by rw [dp_s, if_neg h36, if_neg h37, b1.1]; omega
  have e : i + (a + 1) = i + a + 1 := by omega
  intro m hm q
  by_cases z : m < a
  · have := h1 m z q; omega
  · by_cases y : m = a
    · rw [y]; exact hop
    · by_cases x : m = a + 1
      · rw [x, e, lz_f hf (fun _ => by rw [show i + a + 1 - 1 = i + a by omega]; exact hno)]; omega
      · rw [show m = (a + 1) + (m - (a + 1)) by omega, dp_app, d1, e] at q
        have k := h2 (m - (a + 1)) (by omega) (by omega)
        rw [show i + a + 1 + (m - (a + 1)) = i + m by omega] at k
        rw [lz_c (i' := i + a + 1) (by omega) (by omega)]
        omega
theorem Lb.cons {i b c : Nat} (h2 : Lb w c (i + 1) b) (hb : 0 < b) (h36 : w i ≠ 36) (h37 : w i ≠ 37) (hf0 : fwd (w i)) (hno : ¬ opd (w i)) (hf : fwd (w (i + 1))) : Lb w c i (1 + b) := by
  have h0 : Bl w i 0 := ⟨rfl, rfl, fun m hm => by have : m = 0 := by omega
                                                  subst this; exact ⟨Int.le_refl _, Int.le_refl _⟩, fun m hm => by omega⟩
  have := Lb.join (i := i) (a := 0) (b := b) (c := c) (c1 := 0) (c2 := c) h0 (fun m hm => by omega) h2 (by omega) (by omega) hb h36 h37 (by rw [show i + 0 = i by omega, lz_f hf0 (fun q => by omega)]; omega) hno hf
  rw [show 0 + 1 + b = 1 + b by omega] at this
  exact this
def Pr (w : Nat → Int) (c i j : Nat) : Prop := i < j ∧ fwd (w i) ∧ (c ≤ 2 → w i ≠ 31) ∧ opd (w (j - 1)) ∧ Bl w i (j - i) ∧ (c ≤ 5 → Nq w i (j - i)) ∧ Lb w c i (j - i)
/-- two parts joined by an operator -/
theorem Pr.join {c c1 c2 i m j : Nat} (h1 : Pr w c1 i m) (h2 : Pr w c2 (m + 1) j) (hc1 : c1 ≤ c) (hc2 : c2 ≤ c) (h2c : c ≤ 2 → c1 ≤ 2) (hq : c ≤ 5 → c1 ≤ 5 ∧ c2 ≤ 5) (hop : (24 ≤ w m ∧ w m ≤ 30) ∨ (18 ≤ w m ∧ w m ≤ 23) ∨ w m = 35) (hl : lz w i m ≤ c) : Pr w c i j := by
  obtain ⟨p1, p2, p3, p4, p5, p6, p7⟩ := h1
  obtain ⟨q1, q2, q3, q4, q5, q6, q7⟩ := h2
  have em : i + (m - i) = m := by omega
  have ej : j - i = (m - i) + 1 + (j - (m + 1)) := by omega
  refine ⟨by omega, p2, fun z => p3 (h2c z), q4, ?_, fun z => ?_, ?_⟩
  · rw [ej]
    exact p5.join (by rw [em]; exact q5) (by rw [em]; unfold rwd; omega) (by rw [em]; omega) (by rw [em]; omega) (by rw [em]; omega) (by rw [em]; omega)
  · rw [ej]
    exact Nq.join p5 (p6 (hq z).1) (by rw [em]; exact q6 (hq z).2) (by rw [em]; omega) (by rw [em]; omega) (by rw [em]; omega)
  · rw [ej]
    exact Lb.join p5 p7 (by rw [em]; exact q7) hc1 hc2 (by omega) (by rw [em]; omega) (by rw [em]; omega) (by rw [em]; exact hl) (by rw [em]; unfold opd; omega) (by rw [em]; exact q2)
theorem Pr.wk {c c' i j : Nat} (h : Pr w c i j) (hc : c ≤ c') (h2 : c' ≤ 2 → c ≤ 2) : Pr w c' i j := by
  obtain ⟨p1, p2, p3, p4, p5, p6, p7⟩ := h
  exact ⟨p1, p2, fun z => p3 (h2 z), p4, p5, fun z => p6 (by omega), fun m hm q => by have := p7 m hm q; omega⟩
theorem lz_26 {i m : Nat} (h : 26 ≤ w m ∧ w m ≤ 28) : lz w i m = 1 := by
  unfold lz
  rw [if_neg (by omega), if_neg (by omega), if_neg (by omega), if_neg (by omega), if_neg (by omega), if_pos h]
theorem lz_24 {i m : Nat} (h : w m = 24 ∨ w m = 25) (hi : i < m) (ho : opd (w (m - 1))) : lz w i m = 2 := by
  unfold lz
  rw [if_neg (by omega), if_neg (by omega), if_neg (by omega), if_neg (by omega), if_pos h, if_pos ⟨hi, ho⟩]
theorem lz_18 {i m : Nat} (h : 18 ≤ w m ∧ w m ≤ 23) : lz w i m = 3 := by
  unfold lz
  rw [if_neg (by omega), if_neg (by omega), if_neg (by omega), if_pos h]
theorem lz_29 {i m : Nat} (h : w m = 29) : lz w i m = 4 := by
  unfold lz
  rw [if_neg (by omega), if_neg (by omega), if_pos h]
theorem lz_30 {i m : Nat} (h : w m = 30) : lz w i m = 5 := by
  unfold lz
  rw [if_neg (by omega), if_pos h]
theorem lz_32 {i m : Nat} (h : w m = 32) : lz w i m = 6 := by
  unfold lz
  rw [if_pos h]
theorem lz_35 {i m : Nat} (h : w m = 35) : lz w i m = 0 := by
  unfold lz
  rw [if_neg (by omega), if_neg (by omega), if_neg (by omega), if_neg (by omega), if_neg (by omega), if_neg (by omega)]
/-- parentheses -/
theorem Pr.par {c i j : Nat} (h : Pr w c (i + 1) j) (h36 : w i = 36) (h37 : w j = 37) : Pr w 0 i (j + 1) := by
  obtain ⟨p1, p2, p3, p4, p5, p6, p7⟩ := h
  have ej : j + 1 - i = (j - (i + 1)) + 2 := by omega
  have em : i + 1 + (j - (i + 1)) = j := by omega
  obtain ⟨b, d⟩ := p5.paren h36 (by rw [em]; exact h37)
  refine ⟨by omega, by unfold fwd; omega, fun _ => by omega, by rw [show j + 1 - 1 = j by omega]; unfold opd; omega, by rw [ej]; exact b, fun _ m hm q => ?_, fun m hm q => ?_⟩
  · by_cases z : m = 0
    · rw [z, show i + 0 = i by omega]; omega
    · have := d m (by omega)
      by_cases y : m ≤ j - (i + 1) + 1
      · have := this y; omega
      · omega
  · by_cases z : m = 0
    · rw [z, show i + 0 = i by omega, lz_f (by unfold fwd; omega) (fun q => by omega)]; omega
    · have := d m (by omega)
      by_cases y : m ≤ j - (i + 1) + 1
      · have := this y; omega
      · omega
theorem Pr.pre {c c' i j : Nat} (h : Pr w c (i + 1) j) (hc : c ≤ c') (hw : w i = 25 ∨ w i = 31) (h3 : w i = 31 → 3 ≤ c') (hq : c' ≤ 5 → c ≤ 5) : Pr w c' i j := by
  obtain ⟨p1, p2, p3, p4, p5, p6, p7⟩ := h
  have ej : j - i = 1 + (j - (i + 1)) := by omega
  refine ⟨by omega, by unfold fwd; omega, fun z q => by have := h3 q; omega, p4, ?_, fun z => ?_, ?_⟩
  · rw [ej]
    exact p5.cons (by unfold rwd; omega) (by omega) (by omega) (by omega) (by omega)
  · rw [ej]
    exact Nq.cons (p6 (hq z)) (by omega) (by omega) (by omega)
  · rw [ej]
    refine fun m hm q => ?_
    have := Lb.cons p7 (by omega) (by omega) (by omega) (by unfold fwd; omega) (by unfold opd; omega) p2 m hm q
    omega
end SH
