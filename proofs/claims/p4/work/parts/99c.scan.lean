/-! The reference: how deep a word stands. -/
section SC
variable (w : Nat → Int)
/-- how many parentheses are open after m words from i on -/
def dp (i : Nat) : Nat → Int
  | 0 => 0
  | m + 1 => dp i m + (if w (i + m) = 36 then 1 else if w (i + m) = 37 then -1 else 0)
/-- how many questions are open there, outside parentheses -/
def aq (i : Nat) : Nat → Int
  | 0 => 0
  | m + 1 => if 0 < dp w i m then aq i m else aq i m + (if w (i + m) = 32 then 1 else if w (i + m) = 33 then -1 else 0)
/-- an operand ends here -/
def opd (x : Int) : Prop := x = 1 ∨ x = 2 ∨ x = 12 ∨ x = 13 ∨ x = 37
/-- how loosely the word at k binds -/
def lz (i k : Nat) : Nat := if w k = 32 then 6 else if w k = 30 then 5 else if w k = 29 then 4 else if 18 ≤ w k ∧ w k ≤ 23 then 3 else if w k = 24 ∨ w k = 25 then (if i < k ∧ (w (k - 1) = 1 ∨ w (k - 1) = 2 ∨ w (k - 1) = 12 ∨ w (k - 1) = 13 ∨ w (k - 1) = 37) then 2 else 0) else if 26 ≤ w k ∧ w k ≤ 28 then 1 else 0
/-- words that rules are made of -/
def rwd (x : Int) : Prop := x = 1 ∨ x = 2 ∨ (12 ≤ x ∧ x ≤ 15) ∨ (18 ≤ x ∧ x ≤ 33) ∨ (35 ≤ x ∧ x ≤ 37)
/-- a rule's first word -/
def fwd (x : Int) : Prop := x = 1 ∨ x = 2 ∨ (12 ≤ x ∧ x ≤ 15) ∨ x = 25 ∨ x = 31 ∨ x = 36
end SC
section SC
variable {w : Nat → Int}
theorem dp_s {i m : Nat} : dp w i (m + 1) = dp w i m + (if w (i + m) = 36 then 1 else if w (i + m) = 37 then -1 else 0) := rfl
theorem aq_s {i m : Nat} : aq w i (m + 1) = if 0 < dp w i m then aq w i m else aq w i m + (if w (i + m) = 32 then 1 else if w (i + m) = 33 then -1 else 0) := rfl
theorem dp_app {i : Nat} (a : Nat) : ∀ b, dp w i (a + b) = dp w i a + dp w (i + a) b
  | 0 => by show dp w i a = dp w i a + 0; omega
  | b + 1 => by
    have e : a + (b + 1) = (a + b) + 1 := rfl
    rw [e, dp_s, dp_s, dp_app a b, Nat.add_assoc i a b]
    omega
theorem aq_app {i a : Nat} (h : dp w i a = 0) : ∀ b, aq w i (a + b) = aq w i a + aq w (i + a) b
  | 0 => by show aq w i a = aq w i a + 0; omega
  | b + 1 => by
    have e : a + (b + 1) = (a + b) + 1 := rfl
    rw [e, aq_s, aq_s, aq_app h b, dp_app, h, show (0 : Int) + dp w (i + a) b = dp w (i + a) b by omega, Nat.add_assoc i a b]
    split <;> omega
/-- balanced: parentheses and questions close, none before it was opened; no colon of another question -/
def Bl (w : Nat → Int) (i l : Nat) : Prop := dp w i l = 0 ∧ aq w i l = 0 ∧ (∀ m, m ≤ l → 0 ≤ dp w i m ∧ 0 ≤ aq w i m) ∧ (∀ m, m < l → rwd (w (i + m)) ∧ (dp w i m = 0 → aq w i m = 0 → w (i + m) ≠ 33))
/-- no question outside parentheses -/
def Nq (w : Nat → Int) (i l : Nat) : Prop := ∀ m, m < l → dp w i m = 0 → w (i + m) ≠ 32
theorem Nq.aq0 {i l : Nat} (h : Nq w i l) (b : Bl w i l) : ∀ m, m ≤ l → aq w i m = 0 := by
  intro m
  induction m with
  | zero => intro _; rfl
  | succ m ih =>
    intro hm
    have e := ih (by omega)
    have d := b.2.2.1 m (by omega)
    show (if 0 < dp w i m then aq w i m else aq w i m + _) = 0
    by_cases z : 0 < dp w i m
    · rw [if_pos z]; exact e
    · rw [if_neg z, if_neg (h m (by omega) (by omega)), if_neg ((b.2.2.2 m (by omega)).2 (by omega) e)]
      omega
/-- two balanced stretches with a plain word between them -/
theorem Bl.join {i a b : Nat} (h1 : Bl w i a) (h2 : Bl w (i + a + 1) b) (hp : rwd (w (i + a))) (h36 : w (i + a) ≠ 36) (h37 : w (i + a) ≠ 37) (h32 : w (i + a) ≠ 32) (h33 : w (i + a) ≠ 33) : Bl w i (a + 1 + b) := by
  have d1 : dp w i (a + 1) = 0 := by show dp w i a + _ = 0; rw [if_neg h36, if_neg h37, h1.1]; omega
  have a1 : aq w i (a + 1) = 0 := by
    show (if 0 < dp w i a then aq w i a else aq w i a + _) = 0
    rw [h1.1, if_neg (by omega), if_neg h32, if_neg h33, h1.2.1]; omega
  have e : i + (a + 1) = i + a + 1 := by omega
  refine ⟨by rw [dp_app, d1, e, h2.1]; omega, by rw [aq_app d1, a1, e, h2.2.1]; omega, fun m hm => ?_, fun m hm => ?_⟩
  · by_cases z : m ≤ a
    · exact h1.2.2.1 m z
    · have k := h2.2.2.1 (m - (a + 1)) (by omega)
      rw [show m = (a + 1) + (m - (a + 1)) by omega, dp_app, aq_app d1, d1, a1, e]
      omega
  · by_cases z : m < a
    · exact h1.2.2.2 m z
    · by_cases y : m = a
      · rw [y]; exact ⟨hp, fun _ _ => h33⟩
      · have k := h2.2.2.2 (m - (a + 1)) (by omega)
        rw [show i + a + 1 + (m - (a + 1)) = i + m by omega] at k
        refine ⟨k.1, fun q1 q2 => k.2 ?_ ?_⟩
        · rw [show m = (a + 1) + (m - (a + 1)) by omega, dp_app, d1, e] at q1
          omega
        · rw [show m = (a + 1) + (m - (a + 1)) by omega, aq_app d1, a1, e] at q2
          omega
theorem Nq.join {i a b : Nat} (b1 : Bl w i a) (h1 : Nq w i a) (h2 : Nq w (i + a + 1) b) (h36 : w (i + a) ≠ 36) (h37 : w (i + a) ≠ 37) (h32 : w (i + a) ≠ 32) : Nq w i (a + 1 + b) := by
  have d1 : dp w i (a + 1) = 0 := by show dp w i a + _ = 0; rw [if_neg h36, if_neg h37, b1.1]; omega
  have e : i + (a + 1) = i + a + 1 := by omega
  intro m hm q
  by_cases z : m < a
  · exact h1 m z q
  · by_cases y : m = a
    · rw [y]; exact h32
    · have k := h2 (m - (a + 1)) (by omega)
      rw [show i + a + 1 + (m - (a + 1)) = i + m by omega] at k
      refine k ?_
      rw [show m = (a + 1) + (m - (a + 1)) by omega, dp_app, d1, e] at q
      omega
/-- one plain word, then a balanced stretch -/
theorem Bl.cons {i b : Nat} (h2 : Bl w (i + 1) b) (hp : rwd (w i)) (h36 : w i ≠ 36) (h37 : w i ≠ 37) (h32 : w i ≠ 32) (h33 : w i ≠ 33) : Bl w i (1 + b) := by
  have h0 : Bl w i 0 := ⟨rfl, rfl, fun m hm => by have : m = 0 := by omega
                                                  subst this; exact ⟨Int.le_refl _, Int.le_refl _⟩, fun m hm => by omega⟩
  have := h0.join (b := b) (by rw [show i + 0 + 1 = i + 1 by omega]; exact h2) hp h36 h37 h32 h33
  rw [show 0 + 1 + b = 1 + b by omega] at this
  exact this
theorem Nq.cons {i b : Nat} (h2 : Nq w (i + 1) b) (h36 : w i ≠ 36) (h37 : w i ≠ 37) (h32 : w i ≠ 32) : Nq w i (1 + b) := by
  have h0 : Bl w i 0 := ⟨rfl, rfl, fun m hm => by have : m = 0 := by omega
                                                  subst this; exact ⟨Int.le_refl _, Int.le_refl _⟩, fun m hm => by omega⟩
  have := Nq.join (a := 0) (b := b) h0 (fun m hm => by omega) (by rw [show i + 0 + 1 = i + 1 by omega]; exact h2) h36 h37 h32
  rw [show 0 + 1 + b = 1 + b by omega] at this
  exact this
/-- parentheses around a balanced stretch -/
theorem Bl.paren {i b : Nat} (h2 : Bl w (i + 1) b) (h36 : w i = 36) (h37 : w (i + 1 + b) = 37) : Bl w i (b + 2) ∧ (∀ m, 1 ≤ m → m ≤ b + 1 → 1 ≤ dp w i m) := by
  have d1 : dp w i 1 = 1 := by show dp w i 0 + _ = 1; rw [show i + 0 = i by omega, if_pos h36]; rfl
  have dd : ∀ m, 1 ≤ m → m ≤ b + 1 → dp w i m = 1 + dp w (i + 1) (m - 1) := fun m h1 h3 => by
    rw [show m = 1 + (m - 1) by omega, dp_app, d1, show 1 + (m - 1) - 1 = m - 1 by omega]
  have dpos : ∀ m, 1 ≤ m → m ≤ b + 1 → 1 ≤ dp w i m := fun m h1 h3 => by
    have := dd m h1 h3
    have := h2.2.2.1 (m - 1) (by omega)
    omega
  have aqz : ∀ m, m ≤ b + 1 → aq w i m = 0 := by
    intro m
    induction m with
    | zero => intro _; rfl
    | succ m ih =>
      intro hm
      have e := ih (by omega)
      show (if 0 < dp w i m then aq w i m else aq w i m + _) = 0
      by_cases z : m = 0
      · subst z
        rw [if_neg (by show ¬ (0 : Int) < 0; omega), show i + 0 = i by omega, if_neg (by omega), if_neg (by omega), e]; omega
      · rw [if_pos (by have := dpos m (by omega) (by omega); omega)]; exact e
  have dl : dp w i (b + 2) = 0 := by
    show dp w i (b + 1) + _ = 0
    rw [show i + (b + 1) = i + 1 + b by omega, if_neg (by omega), if_pos h37, dd (b + 1) (by omega) (by omega), show b + 1 - 1 = b by omega, h2.1]
    omega
  have al : aq w i (b + 2) = 0 := by
    show (if 0 < dp w i (b + 1) then aq w i (b + 1) else aq w i (b + 1) + _) = 0
    rw [if_pos (by have := dpos (b + 1) (by omega) (by omega); omega)]
    exact aqz _ (by omega)
  refine ⟨⟨dl, al, fun m hm => ?_, fun m hm => ?_⟩, dpos⟩
  · by_cases z : m = b + 2
    · rw [z, dl, al]; omega
    · rw [aqz m (by omega)]
      by_cases y : m = 0
      · subst y; exact ⟨Int.le_refl _, Int.le_refl _⟩
      · have := dpos m (by omega) (by omega)
        omega
  · by_cases y : m = 0
    · subst y
      rw [show i + 0 = i by omega, h36]
      exact ⟨by unfold rwd; omega, fun _ _ => by omega⟩
    · by_cases z : m = b + 1
      · rw [z, show i + (b + 1) = i + 1 + b by omega, h37]
        exact ⟨by unfold rwd; omega, fun _ _ => by omega⟩
      · have k := (h2.2.2.2 (m - 1) (by omega)).1
        rw [show i + 1 + (m - 1) = i + m by omega] at k
        exact ⟨k, fun q _ => by have := dpos m (by omega) (by omega); omega⟩
end SC
