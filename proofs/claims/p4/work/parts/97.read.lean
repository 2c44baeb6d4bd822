/-! The reference: reading the text by its grammar. -/
theorem ex_t1 {x nx : Int} {ys : List Int} (h : ex x nx = some (ys, 1)) (hn : nx = 0 ∨ nx = 39) : x = 50 ∧ nx = 0 ∧ ys = [] := by
  unfold ex at h
  by_cases q50 : x = 50
  · rw [if_pos q50] at h
    unfold ex50 at h
    by_cases c0 : nx = 0
    · rw [if_pos c0] at h; cases h; exact ⟨q50, c0, rfl⟩
    rw [if_neg c0] at h
    rw [if_neg (by omega)] at h
    rw [if_neg (by omega)] at h
    rw [if_neg (by omega)] at h
    rw [if_neg (by omega)] at h
    cases h
  rw [if_neg q50] at h
  by_cases q51 : x = 51
  · rw [if_pos q51] at h
    unfold ex51 at h
    cases h
  rw [if_neg q51] at h
  by_cases q53 : x = 53
  · rw [if_pos q53] at h
    unfold ex53 at h
    rw [if_neg (by omega)] at h
    cases h
  rw [if_neg q53] at h
  by_cases q54 : x = 54
  · rw [if_pos q54] at h
    unfold ex54 at h
    rw [if_neg (by omega)] at h
    cases h
  rw [if_neg q54] at h
  by_cases q56 : x = 56
  · rw [if_pos q56] at h
    unfold ex56 at h
    cases h
  rw [if_neg q56] at h
  by_cases q57 : x = 57
  · rw [if_pos q57] at h
    unfold ex57 at h
    rw [if_neg (by omega)] at h
    cases h
  rw [if_neg q57] at h
  by_cases q58 : x = 58
  · rw [if_pos q58] at h
    unfold ex58 at h
    rw [if_neg (by omega)] at h
    cases h
  rw [if_neg q58] at h
  by_cases q59 : x = 59
  · rw [if_pos q59] at h
    unfold ex59 at h
    rw [if_neg (by omega)] at h
    cases h
  rw [if_neg q59] at h
  by_cases q60 : x = 60
  · rw [if_pos q60] at h
    unfold ex60 at h
    rw [if_neg (by omega)] at h
    cases h
  rw [if_neg q60] at h
  by_cases q61 : x = 61
  · rw [if_pos q61] at h
    unfold ex61 at h
    cases h
  rw [if_neg q61] at h
  by_cases q62 : x = 62
  · rw [if_pos q62] at h
    unfold ex62 at h
    rw [if_neg (by omega)] at h
    cases h
  rw [if_neg q62] at h
  by_cases q63 : x = 63
  · rw [if_pos q63] at h
    unfold ex63 at h
    cases h
  rw [if_neg q63] at h
  by_cases q64 : x = 64
  · rw [if_pos q64] at h
    unfold ex64 at h
    rw [if_neg (by omega)] at h
    cases h
  rw [if_neg q64] at h
  by_cases q65 : x = 65
  · rw [if_pos q65] at h
    unfold ex65 at h
    cases h
  rw [if_neg q65] at h
  by_cases q66 : x = 66
  · rw [if_pos q66] at h
    unfold ex66 at h
    rw [if_neg (by omega)] at h
    cases h
  rw [if_neg q66] at h
  by_cases q67 : x = 67
  · rw [if_pos q67] at h
    unfold ex67 at h
    rw [if_neg (by omega)] at h
    cases h
  rw [if_neg q67] at h
  by_cases q68 : x = 68
  · rw [if_pos q68] at h
    unfold ex68 at h
    rw [if_neg (by omega)] at h
    cases h
  rw [if_neg q68] at h
  by_cases q69 : x = 69
  · rw [if_pos q69] at h
    unfold ex69 at h
    cases h
  rw [if_neg q69] at h
  by_cases q70 : x = 70
  · rw [if_pos q70] at h
    unfold ex70 at h
    rw [if_neg (by omega)] at h
    cases h
  rw [if_neg q70] at h
  by_cases q71 : x = 71
  · rw [if_pos q71] at h
    unfold ex71 at h
    cases h
  rw [if_neg q71] at h
  by_cases q72 : x = 72
  · rw [if_pos q72] at h
    unfold ex72 at h
    rw [if_neg (by omega)] at h
    cases h
  rw [if_neg q72] at h
  by_cases q73 : x = 73
  · rw [if_pos q73] at h
    unfold ex73 at h
    rw [if_neg (by omega)] at h
    rw [if_neg (by omega)] at h
    rw [if_neg (by omega)] at h
    rw [if_neg (by omega)] at h
    cases h
  rw [if_neg q73] at h
  by_cases q74 : x = 74
  · rw [if_pos q74] at h
    unfold ex74 at h
    rw [if_neg (by omega)] at h
    cases h
  rw [if_neg q74] at h
  by_cases q76 : x = 76
  · rw [if_pos q76] at h
    unfold ex76 at h
    rw [if_neg (by omega)] at h
    cases h
  rw [if_neg q76] at h
  cases h
/-- the words from k on, up to n, are what st wants; in f steps -/
def Ac (w : Nat → Int) (n : Nat) : Nat → List Int → Nat → Prop
  | 0, st, k => st = [] ∧ k = n
  | _ + 1, [], _ => False
  | f + 1, x :: r, k => if x = 75 then Ac w n f r k else if x < 50 then w k = x ∧ Ac w n f r (k + 1) else ∃ ys t, ex x (w k) = some (ys, t) ∧ Ac w n f (ys ++ r) (k + t)
theorem c75_app : ∀ (u v : List Int), c75 (u ++ v) = c75 u + c75 v
  | [], v => by show c75 v = 0 + c75 v; omega
  | x :: u, v => by show (if x = 75 then 1 else 0) + c75 (u ++ v) = (if x = 75 then 1 else 0) + c75 u + c75 v; rw [c75_app u v]; omega
theorem c76_app : ∀ (u v : List Int), c76 (u ++ v) = c76 u + c76 v
  | [], v => by show c76 v = 0 + c76 v; omega
  | x :: u, v => by show (if x = 76 then 1 else 0) + c76 (u ++ v) = (if x = 76 then 1 else 0) + c76 u + c76 v; rw [c76_app u v]; omega
theorem swt_app : ∀ (u v : List Int), swt (u ++ v) = swt u + swt v
  | [], v => by show swt v = 0 + swt v; omega
  | x :: u, v => by show wgt x + swt (u ++ v) = wgt x + swt u + swt v; rw [swt_app u v]; omega
theorem c76_no : ∀ (u : List Int), 76 ∉ u → c76 u = 0
  | [], _ => rfl
  | x :: u, h => by
    show (if x = 76 then 1 else 0) + c76 u = 0
    rw [if_neg (fun q => h (by rw [q]; exact List.mem_cons_self ..)), c76_no u (fun q => h (List.mem_cons_of_mem _ q))]
theorem hbd_app {h : Nat} {r : List Int} (hr : hbd r) (hh : r.length + h ≤ 11 + 9 * c75 r) : ∀ (ys : List Int), fits h ys = true → hbd (ys ++ r)
  | [], _ => hr
  | y :: ys, hf => by
    unfold fits at hf
    simp only [Bool.and_eq_true, decide_eq_true_eq] at hf
    refine ⟨?_, hbd_app hr hh ys hf.2⟩
    show (ys ++ r).length + hgt y ≤ 11 + 9 * c75 (ys ++ r)
    rw [List.length_append, c75_app]
    omega
theorem wgt_pos {x : Int} : 1 ≤ wgt x := by unfold wgt; (repeat' split) <;> decide
/-- a pile in order -/
def gdS (st : List Int) : Prop := hbd st ∧ (∀ x, x ∈ st → x ∈ sgs) ∧ 76 ∉ st.tail
theorem gdS.len {st : List Int} (h : gdS st) {lv : Int} (hl : lv = (c75 st : Int) - c76 st) (h4 : lv ≤ 40) : st.length ≤ 400 ∧ -2 ≤ lv := by
  obtain ⟨h1, -, h3⟩ := h
  cases st with
  | nil => exact ⟨Nat.zero_le _, by rw [hl]; show (-2 : Int) ≤ ((0 : Nat) : Int) - ((0 : Nat) : Int); omega⟩
  | cons x r =>
    have e1 : c75 (x :: r) = (if x = 75 then 1 else 0) + c75 r := rfl
    have e2 : c76 (x :: r) = (if x = 76 then 1 else 0) + c76 r := rfl
    have e3 := c76_no r h3
    have e4 := h1.1
    rw [List.length_cons]
    by_cases q : x = 76
    · rw [if_pos q] at e2
      rw [if_neg (by omega)] at e1
      omega
    · rw [if_neg q] at e2
      split at e1 <;> omega
theorem gdS.step {x : Int} {r ys : List Int} {t : Nat} {nx : Int} (h : gdS (x :: r)) (he : ex x nx = some (ys, t)) : gdS (ys ++ r) ∧ (t = 0 ∨ t = 1) ∧ swt ys + 1 ≤ wgt x + 40 * t ∧ (x = 50 → ys = [] ∨ ∃ s, ys = s ++ [50] ∧ 50 ∉ s) ∧ (x ≠ 50 → 50 ∉ ys) := by
  obtain ⟨h1, h2, h3⟩ := h
  have c := ex_chk he
  unfold chk at c
  simp only [Bool.and_eq_true, decide_eq_true_eq] at c
  obtain ⟨⟨⟨⟨⟨⟨⟨c1, c2⟩, c3⟩, c4⟩, c5⟩, c6⟩, c7⟩, c8⟩ := c
  refine ⟨⟨hbd_app h1.2 h1.1 ys c1, fun y hy => ?_, ?_⟩, c4, c5, fun q => ?_, fun q => ?_⟩
  · rcases List.mem_append.1 hy with w | w
    · have := List.all_eq_true.1 c2 y w
      simpa using this
    · exact h2 y (List.mem_cons_of_mem _ w)
  · have h3' : 76 ∉ r := h3
    cases ys with
    | nil =>
      intro w
      exact h3' (List.mem_of_mem_tail w)
    | cons y u =>
      intro w
      have w' : 76 ∈ u ++ r := w
      rcases List.mem_append.1 w' with z | z
      · have c3' : ((y :: u).tail.contains 76) = false := by simpa using c3
        have : u.contains 76 = true := by simpa using z
        have e : (y :: u).tail = u := rfl
        rw [e] at c3'
        rw [c3'] at this
        exact absurd this (by decide)
      · exact h3' z
  · rcases c7 q with w | w
    · exact Or.inl w
    · refine Or.inr ⟨ys.dropLast, ?_, ?_⟩
      · have hne : ys ≠ [] := fun z => by rw [z] at w; simp at w
        have e := List.dropLast_concat_getLast hne
        have e2 := List.getLast?_eq_getLast hne
        rw [e2] at w
        have w1 : ys.getLast hne = 50 := by simpa using w.1
        rw [w1] at e
        exact e.symm
      · simpa using w.2
  · have := c8 q
    simpa using this
