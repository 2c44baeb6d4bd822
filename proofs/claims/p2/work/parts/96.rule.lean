section
/-! The reference: one step of the grammar of rules. -/
section RU
variable {G : mG} {d a : Nat} {M : mM} {st : List Int} {nx : Int}
theorem pq_i32 {x r : Int} {M2 : mM} (h : pQ M a st x nx r M2) : i32 r := by
  rcases h.2.2 with q | ⟨ys, t, e, q, -⟩
  · rw [q]; exact i32s (by omega) (by omega)
  · have c := ex_chk e
    unfold chk at c
    simp only [Bool.and_eq_true, decide_eq_true_eq] at c
    exact i32s (by omega) (by omega)
end RU
end
section
/-! The reference: reading the text by its grammar. -/
theorem ex_t1 {x nx : Int} {ys : List Int} (h : ex x nx = some (ys, 1)) (hn : nx = 0 ∨ nx = 39) : x = 50 ∧ nx = 0 ∧ ys = [] := by
  unfold ex at h
  by_cases q50 : x = 50
  · rw [if_pos q50] at h
    unfold ex50 at h
    by_cases c0 : nx = 0
    · rw [if_pos c0] at h; cases h; exact ⟨q50, c0, rfl⟩
    rw [if_neg c0] at h
    rw [if_neg (by omega)] at h
    rw [if_neg (by omega)] at h
    rw [if_neg (by omega)] at h
    rw [if_neg (by omega)] at h
    cases h
  rw [if_neg q50] at h
  by_cases q51 : x = 51
  · rw [if_pos q51] at h
    unfold ex51 at h
    cases h
  rw [if_neg q51] at h
  by_cases q53 : x = 53
  · rw [if_pos q53] at h
    unfold ex53 at h
    rw [if_neg (by omega)] at h
    cases h
  rw [if_neg q53] at h
  by_cases q54 : x = 54
  · rw [if_pos q54] at h
    unfold ex54 at h
    rw [if_neg (by omega)] at h
    cases h
  rw [if_neg q54] at h
  by_cases q56 : x = 56
  · rw [if_pos q56] at h
    unfold ex56 at h
    cases h
  rw [if_neg q56] at h
  by_cases q57 : x = 57
  · rw [if_pos q57] at h
    unfold ex57 at h
    rw [if_neg (by omega)] at h
    cases h
  rw [if_neg q57] at h
  by_cases q58 : x = 58
  · rw [if_pos q58] at h
    unfold ex58 at h
    rw [if_neg (by omega)] at h
    cases h
  rw [if_neg q58] at h
  by_cases q59 : x = 59
  · rw [if_pos q59] at h
    unfold ex59 at h
    rw [if_neg (by omega)] at h
    cases h
  rw [if_neg q59] at h
  by_cases q60 : x = 60
  · rw [if_pos q60] at h
    unfold ex60 at h
    rw [if_neg (by omega)] at h
    cases h
  rw [if_neg q60] at h
  by_cases q61 : x = 61
  · rw [if_pos q61] at h
    unfold ex61 at h
    cases h
  rw [if_neg q61] at h
  by_cases q62 : x = 62
  · rw [if_pos q62] at h
    unfold ex62 at h
    rw [if_neg (by omega)] at h
    cases h
  rw [if_neg q62] at h
  by_cases q63 : x = 63
  · rw [if_pos q63] at h
    unfold ex63 at h
    cases h
  rw [if_neg q63] at h
  by_cases q64 : x = 64
  · rw [if_pos q64] at h
    unfold ex64 at h
    rw [if_neg (by omega)] at h
    cases h
  rw [if_neg q64] at h
  by_cases q65 : x = 65
  · rw [if_pos q65] at h
    unfold ex65 at h
    cases h
  rw [if_neg q65] at h
  by_cases q66 : x = 66
  · rw [if_pos q66] at h
    unfold ex66 at h
    rw [if_neg (by omega)] at h
    cases h
  rw [if_neg q66] at h
  by_cases q67 : x = 67
  · rw [if_pos q67] at h
    unfold ex67 at h
    rw [if_neg (by omega)] at h
    cases h
  rw [if_neg q67] at h
  by_cases q68 : x = 68
  · rw [if_pos q68] at h
    unfold ex68 at h
    rw [if_neg (by omega)] at h
    cases h
  rw [if_neg q68] at h
  by_cases q69 : x = 69
  · rw [if_pos q69] at h
    unfold ex69 at h
    cases h
  rw [if_neg q69] at h
  by_cases q70 : x = 70
  · rw [if_pos q70] at h
    unfold ex70 at h
    rw [if_neg (by omega)] at h
    cases h
  rw [if_neg q70] at h
  by_cases q71 : x = 71
  · rw [if_pos q71] at h
    unfold ex71 at h
    cases h
  rw [if_neg q71] at h
  by_cases q72 : x = 72
  · rw [if_pos q72] at h
    unfold ex72 at h
    rw [if_neg (by omega)] at h
    cases h
  rw [if_neg q72] at h
  by_cases q73 : x = 73
  · rw [if_pos q73] at h
    unfold ex73 at h
    rw [if_neg (by omega)] at h
    rw [if_neg (by omega)] at h
    rw [if_neg (by omega)] at h
    rw [if_neg (by omega)] at h
    cases h
  rw [if_neg q73] at h
  by_cases q74 : x = 74
  · rw [if_pos q74] at h
    unfold ex74 at h
    rw [if_neg (by omega)] at h
    cases h
  rw [if_neg q74] at h
  by_cases q76 : x = 76
  · rw [if_pos q76] at h
    unfold ex76 at h
    rw [if_neg (by omega)] at h
    cases h
  rw [if_neg q76] at h
  cases h
/-- the words from k on, up to n, are what st wants; in f steps -/
def Ac (w : Nat → Int) (n : Nat) : Nat → List Int → Nat → Prop
  | 0, st, k => st = [] ∧ k = n
  | _ + 1, [], _ => False
  | f + 1, x :: r, k => if x = 75 then Ac w n f r k else if x < 50 then w k = x ∧ Ac w n f r (k + 1) else ∃ ys t, ex x (w k) = some (ys, t) ∧ Ac w n f (ys ++ r) (k + t)
theorem c75_app : ∀ (u v : List Int), c75 (u ++ v) = c75 u + c75 v
  | [], v => by show c75 v = 0 + c75 v; omega
  | x :: u, v => by show (if x = 75 then 1 else 0) + c75 (u ++ v) = (if x = 75 then 1 else 0) + c75 u + c75 v; rw [c75_app u v]; omega
theorem c76_app : ∀ (u v : List Int), c76 (u ++ v) = c76 u + c76 v
  | [], v => by show c76 v = 0 + c76 v; omega
  | x :: u, v => by show (if x = 76 then 1 else 0) + c76 (u ++ v) = (if x = 76 then 1 else 0) + c76 u + c76 v; rw [c76_app u v]; omega
theorem swt_app : ∀ (u v : List Int), swt (u ++ v) = swt u + swt v
  | [], v => by show swt v = 0 + swt v; omega
  | x :: u, v => by show wgt x + swt (u ++ v) = wgt x + swt u + swt v; rw [swt_app u v]; omega
theorem c76_no : ∀ (u : List Int), 76 ∉ u → c76 u = 0
  | [], _ => rfl
  | x :: u, h => by
    show (if x = 76 then 1 else 0) + c76 u = 0
    rw [if_neg (fun q => h (by rw [q]; exact List.mem_cons_self ..)), c76_no u (fun q => h (List.mem_cons_of_mem _ q))]
theorem hbd_app {h : Nat} {r : List Int} (hr : hbd r) (hh : r.length + h ≤ 11 + 9 * c75 r) : ∀ (ys : List Int), fits h ys = true → hbd (ys ++ r)
  | [], _ => hr
  | y :: ys, hf => by
    unfold fits at hf
    simp only [Bool.and_eq_true, decide_eq_true_eq] at hf
    refine ⟨?_, hbd_app hr hh ys hf.2⟩
    show (ys ++ r).length + hgt y ≤ 11 + 9 * c75 (ys ++ r)
    rw [List.length_append, c75_app]
    omega
theorem wgt_pos {x : Int} : 1 ≤ wgt x := by unfold wgt; (repeat' split) <;> decide
/-- a pile in order -/
def gdS (st : List Int) : Prop := hbd st ∧ (∀ x, x ∈ st → x ∈ sgs) ∧ 76 ∉ st.tail
theorem gdS.len {st : List Int} (h : gdS st) {lv : Int} (hl : lv = (c75 st : Int) - c76 st) (h4 : lv ≤ 40) : st.length ≤ 400 ∧ -2 ≤ lv := by
  obtain ⟨h1, -, h3⟩ := h
  cases st with
  | nil => exact ⟨Nat.zero_le _, by rw [hl]; show (-2 : Int) ≤ ((0 : Nat) : Int) - ((0 : Nat) : Int); omega⟩
  | cons x r =>
    have e1 : c75 (x :: r) = (if x = 75 then 1 else 0) + c75 r := rfl
    have e2 : c76 (x :: r) = (if x = 76 then 1 else 0) + c76 r := rfl
    have e3 := c76_no r h3
    have e4 := h1.1
    rw [List.length_cons]
    by_cases q : x = 76
    · rw [if_pos q] at e2
      rw [if_neg (by omega)] at e1
      omega
    · rw [if_neg q] at e2
      split at e1 <;> omega
theorem gdS.step {x : Int} {r ys : List Int} {t : Nat} {nx : Int} (h : gdS (x :: r)) (he : ex x nx = some (ys, t)) : gdS (ys ++ r) ∧ (t = 0 ∨ t = 1) ∧ swt ys + 1 ≤ wgt x + 40 * t ∧ (x = 50 → ys = [] ∨ ∃ s, ys = s ++ [50] ∧ 50 ∉ s) ∧ (x ≠ 50 → 50 ∉ ys) := by
  obtain ⟨h1, h2, h3⟩ := h
  have c := ex_chk he
  unfold chk at c
  simp only [Bool.and_eq_true, decide_eq_true_eq] at c
  obtain ⟨⟨⟨⟨⟨⟨⟨c1, c2⟩, c3⟩, c4⟩, c5⟩, c6⟩, c7⟩, c8⟩ := c
  refine ⟨⟨hbd_app h1.2 h1.1 ys c1, fun y hy => ?_, ?_⟩, c4, c5, fun q => ?_, fun q => ?_⟩
  · rcases List.mem_append.1 hy with w | w
    · have := List.all_eq_true.1 c2 y w
      simpa using this
    · exact h2 y (List.mem_cons_of_mem _ w)
  · have h3' : 76 ∉ r := h3
    cases ys with
    | nil =>
      intro w
      exact h3' (List.mem_of_mem_tail w)
    | cons y u =>
      intro w
      have w' : 76 ∈ u ++ r := w
      rcases List.mem_append.1 w' with z | z
      · have c3' : ((y :: u).tail.contains 76) = false := by simpa using c3
        have : u.contains 76 = true := by simpa using z
        have e : (y :: u).tail = u := rfl
        rw [e] at c3'
        rw [c3'] at this
        exact absurd this (by decide)
      · exact h3' z
  · rcases c7 q with w | w
    · exact Or.inl w
    · refine Or.inr ⟨ys.dropLast, ?_, ?_⟩
      · have hne : ys ≠ [] := fun z => by rw [z] at w; simp at w
        have e := List.dropLast_concat_getLast hne
        have e2 := List.getLast?_eq_getLast hne
        rw [e2] at w
        have w1 : ys.getLast hne = 50 := by simpa using w.1
        rw [w1] at e
        exact e.symm
      · simpa using w.2
  · have := c8 q
    simpa using this
end
section
/-! The reference: readText. -/
section RT
variable {G : mG} {d a : Nat} {M : mM} {N : Nat}
/-- the words: c of them sound, then the end or a wrong one -/
def wrds (M : mM) (a N : Nat) : Prop := 1 ≤ N ∧ N ≤ 16385 ∧ ln M (a + 5) = N ∧ (∀ j, j + 1 < N → 1 ≤ nt M (a + 5) j ∧ nt M (a + 5) j ≤ 38) ∧ (nt M (a + 5) (N - 1) = 0 ∨ nt M (a + 5) (N - 1) = 39)
def rdI (M : mM) (a : Nat) (M2 : mM) : Prop := Mv (qP a) (qS a) M a M2 ∧ ∀ j, j ≠ 7 → j ≠ 8 → mI M2 a j = mI M a j
def rdQ (M : mM) (a N : Nat) (v : Int) (M' : mM) : Prop := rdI M a M' ∧ ((v = 0 ∧ 0 ≤ mI M' a 8 ∧ mI M' a 8 < N) ∨ (v = 1 ∧ nt M (a + 5) (N - 1) = 0 ∧ ∃ f, Ac (nt M (a + 5)) N f [50] 0))
theorem rdI.fld {M2 M3 : mM} {j : Nat} {v : Int} (h : rdI M a M2) (hv : i32 v) (hj : j = 7 ∨ j = 8) (e : M3 = mUI M2 a j v) : rdI M a M3 ∧ (∀ i, mI M3 a i = if i = j then v else mI M2 a i) ∧ ∀ q, q ∈ nums a → sameN M2 M3 q := by
  have w := h.1.2.1
  obtain ⟨m3, f3⟩ := mv_fld hv h.1.1 w e
  exact ⟨⟨h.1.trans (m3.mono (fun q hq => hq.elim) (fun x hx => hx) (fun q hq => by rw [hq]; exact w.lt q11)), fun i i7 i8 => by rw [f3, if_neg (by omega)]; exact h.2 i i7 i8⟩, f3, fun q hq => m3.2.2.2.2 q hq (fun z => z)⟩
theorem sgs_term : ∀ x, x ∈ sgs → x < 50 → (1 ≤ x ∧ x ≤ 38) := by decide
theorem sgs_item : ∀ x, x ∈ sgs → 50 ≤ x → x < 61 → (x = 50 ∨ x = 51 ∨ x = 53 ∨ x = 54 ∨ x = 56 ∨ x = 57 ∨ x = 58 ∨ x = 59 ∨ x = 60) := by decide
theorem sgs_rule : ∀ x, x ∈ sgs → 61 ≤ x → x ≠ 75 → (x = 61 ∨ x = 62 ∨ x = 63 ∨ x = 64 ∨ x = 65 ∨ x = 66 ∨ x = 67 ∨ x = 68 ∨ x = 69 ∨ x = 70 ∨ x = 71 ∨ x = 72 ∨ x = 73 ∨ x = 74 ∨ x = 76) := by decide
theorem sgs_b : ∀ x, x ∈ sgs → 1 ≤ x ∧ x ≤ 76 := by decide
end RT
end
section
/-! The reference: what the grammar means for rules. -/
/-- words i to j - 1 are an expression of strength c (0 tight, 6 loose; 7: a list of them), n deep -/
def Ex (w : Nat → Int) : Nat → Nat → Nat → Nat → Prop
  | 0, _, _, _ => False
  | n + 1, c, i, j =>
    if c = 0 then (j = i + 1 ∧ (w i = 1 ∨ w i = 2 ∨ w i = 12 ∨ w i = 13)) ∨ (w i = 25 ∧ Ex w n 0 (i + 1) j) ∨ (w i = 36 ∧ w (j - 1) = 37 ∧ Ex w n 6 (i + 1) (j - 1)) ∨ ((w i = 14 ∨ w i = 15) ∧ w (i + 1) = 36 ∧ w (j - 1) = 37 ∧ Ex w n 7 (i + 2) (j - 1))
    else if c = 1 then Ex w n 0 i j ∨ ∃ m, (w m = 26 ∨ w m = 27 ∨ w m = 28) ∧ Ex w n 1 i m ∧ Ex w n 0 (m + 1) j
    else if c = 2 then Ex w n 1 i j ∨ ∃ m, (w m = 24 ∨ w m = 25) ∧ Ex w n 2 i m ∧ Ex w n 1 (m + 1) j
    else if c = 3 then Ex w n 2 i j ∨ (∃ m, (18 ≤ w m ∧ w m ≤ 23) ∧ Ex w n 2 i m ∧ Ex w n 2 (m + 1) j) ∨ (w i = 31 ∧ Ex w n 3 (i + 1) j)
    else if c = 4 then Ex w n 3 i j ∨ ∃ m, w m = 29 ∧ Ex w n 4 i m ∧ Ex w n 3 (m + 1) j
    else if c = 5 then Ex w n 4 i j ∨ ∃ m, w m = 30 ∧ Ex w n 5 i m ∧ Ex w n 4 (m + 1) j
    else if c = 6 then Ex w n 5 i j ∨ ∃ m q, w m = 32 ∧ w q = 33 ∧ Ex w n 5 i m ∧ Ex w n 6 (m + 1) q ∧ Ex w n 6 (q + 1) j
    else if c = 7 then Ex w n 6 i j ∨ ∃ m, w m = 35 ∧ Ex w n 7 i m ∧ Ex w n 6 (m + 1) j
    else False
section EX
variable {w : Nat → Int}
theorem Ex.up : ∀ {n c i j : Nat}, Ex w n c i j → Ex w (n + 1) c i j := by
  intro n
  induction n with
  | zero => intro c i j h; exact h.elim
  | succ n ih =>
    intro c i j h
    rw [Ex] at h ⊢
    by_cases c0 : c = 0
    · rw [if_pos c0] at h ⊢
      rcases h with h | h | h | h
      · exact Or.inl h
      · exact Or.inr (Or.inl ⟨h.1, ih h.2⟩)
      · exact Or.inr (Or.inr (Or.inl ⟨h.1, h.2.1, ih h.2.2⟩))
      · exact Or.inr (Or.inr (Or.inr ⟨h.1, h.2.1, h.2.2.1, ih h.2.2.2⟩))
    rw [if_neg c0] at h ⊢
    by_cases c1 : c = 1
    · rw [if_pos c1] at h ⊢
      rcases h with h | ⟨m, h1, h2, h3⟩
      · exact Or.inl (ih h)
      · exact Or.inr ⟨m, h1, ih h2, ih h3⟩
    rw [if_neg c1] at h ⊢
    by_cases c2 : c = 2
    · rw [if_pos c2] at h ⊢
      rcases h with h | ⟨m, h1, h2, h3⟩
      · exact Or.inl (ih h)
      · exact Or.inr ⟨m, h1, ih h2, ih h3⟩
    rw [if_neg c2] at h ⊢
    by_cases c3 : c = 3
    · rw [if_pos c3] at h ⊢
      rcases h with h | ⟨m, h1, h2, h3⟩ | ⟨h1, h2⟩
      · exact Or.inl (ih h)
      · exact Or.inr (Or.inl ⟨m, h1, ih h2, ih h3⟩)
      · exact Or.inr (Or.inr ⟨h1, ih h2⟩)
    rw [if_neg c3] at h ⊢
    by_cases c4 : c = 4
    · rw [if_pos c4] at h ⊢
      rcases h with h | ⟨m, h1, h2, h3⟩
      · exact Or.inl (ih h)
      · exact Or.inr ⟨m, h1, ih h2, ih h3⟩
    rw [if_neg c4] at h ⊢
    by_cases c5 : c = 5
    · rw [if_pos c5] at h ⊢
      rcases h with h | ⟨m, h1, h2, h3⟩
      · exact Or.inl (ih h)
      · exact Or.inr ⟨m, h1, ih h2, ih h3⟩
    rw [if_neg c5] at h ⊢
    by_cases c6 : c = 6
    · rw [if_pos c6] at h ⊢
      rcases h with h | ⟨m, q, h1, h2, h3, h4, h5⟩
      · exact Or.inl (ih h)
      · exact Or.inr ⟨m, q, h1, h2, ih h3, ih h4, ih h5⟩
    rw [if_neg c6] at h ⊢
    by_cases c7 : c = 7
    · rw [if_pos c7] at h ⊢
      rcases h with h | ⟨m, h1, h2, h3⟩
      · exact Or.inl (ih h)
      · exact Or.inr ⟨m, h1, ih h2, ih h3⟩
    · rw [if_neg c7] at h
      exact h.elim
theorem Ex.add {n c i j : Nat} (h : Ex w n c i j) : ∀ k, Ex w (n + k) c i j
  | 0 => h
  | k + 1 => (Ex.add h k).up
/-- at some depth -/
def Eo (w : Nat → Int) (c i j : Nat) : Prop := ∃ n, Ex w n c i j
theorem Ex.le {n m c i j : Nat} (h : Ex w n c i j) (hl : n ≤ m) : Ex w m c i j := by
  have := h.add (m - n)
  rw [show n + (m - n) = m by omega] at this
  exact this
theorem Eo.two {c1 i1 j1 c2 i2 j2 : Nat} (h1 : Eo w c1 i1 j1) (h2 : Eo w c2 i2 j2) : ∃ n, Ex w n c1 i1 j1 ∧ Ex w n c2 i2 j2 := by
  obtain ⟨n1, h1⟩ := h1
  obtain ⟨n2, h2⟩ := h2
  exact ⟨n1 + n2, h1.le (by omega), h2.le (by omega)⟩
theorem Eo.one {c i j : Nat} (hc : c ≤ 6) (h : Eo w c i j) : Eo w (c + 1) i j := by
  obtain ⟨n, h⟩ := h
  refine ⟨n + 1, ?_⟩
  have hc' : c = 0 ∨ c = 1 ∨ c = 2 ∨ c = 3 ∨ c = 4 ∨ c = 5 ∨ c = 6 := by omega
  rcases hc' with q | q | q | q | q | q | q <;> subst q <;> rw [Ex]
  · exact Or.inl h
  · exact Or.inl h
  · exact Or.inl h
  · exact Or.inl h
  · exact Or.inl h
  · exact Or.inl h
  · exact Or.inl h
theorem Eo.six {c i j : Nat} (hc : c ≤ 6) (h : Eo w c i j) : Eo w 6 i j := by
  suffices H : ∀ k c, c + k = 6 → Eo w c i j → Eo w 6 i j from H (6 - c) c (by omega) h
  intro k
  induction k with
  | zero => intro c e h; have : c = 6 := by omega
            subst this; exact h
  | succ k ih => intro c e h; exact ih (c + 1) (by omega) (h.one (by omega))
theorem eo0_leaf {i : Nat} (h : w i = 1 ∨ w i = 2 ∨ w i = 12 ∨ w i = 13) : Eo w 0 i (i + 1) := ⟨1, by rw [Ex]; exact Or.inl ⟨rfl, h⟩⟩
theorem eo0_neg {i j : Nat} (h : w i = 25) (h2 : Eo w 0 (i + 1) j) : Eo w 0 i j := by
  obtain ⟨n, h2⟩ := h2
  exact ⟨n + 1, by rw [Ex]; exact Or.inr (Or.inl ⟨h, h2⟩)⟩
theorem eo0_par {i j : Nat} (h : w i = 36) (h1 : w j = 37) (h2 : Eo w 6 (i + 1) j) : Eo w 0 i (j + 1) := by
  obtain ⟨n, h2⟩ := h2
  exact ⟨n + 1, by rw [Ex]; exact Or.inr (Or.inr (Or.inl ⟨h, h1, h2⟩))⟩
theorem eo0_lst {i j : Nat} (h : w i = 14 ∨ w i = 15) (h0 : w (i + 1) = 36) (h1 : w j = 37) (h2 : Eo w 7 (i + 2) j) : Eo w 0 i (j + 1) := by
  obtain ⟨n, h2⟩ := h2
  exact ⟨n + 1, by rw [Ex]; exact Or.inr (Or.inr (Or.inr ⟨h, h0, h1, h2⟩))⟩
theorem eo1 {i m j : Nat} (h : w m = 26 ∨ w m = 27 ∨ w m = 28) (h1 : Eo w 1 i m) (h2 : Eo w 0 (m + 1) j) : Eo w 1 i j := by
  obtain ⟨n, a, b⟩ := h1.two h2
  exact ⟨n + 1, by rw [Ex]; exact Or.inr ⟨m, h, a, b⟩⟩
theorem eo2 {i m j : Nat} (h : w m = 24 ∨ w m = 25) (h1 : Eo w 2 i m) (h2 : Eo w 1 (m + 1) j) : Eo w 2 i j := by
  obtain ⟨n, a, b⟩ := h1.two h2
  exact ⟨n + 1, by rw [Ex]; exact Or.inr ⟨m, h, a, b⟩⟩
theorem eo3 {i m j : Nat} (h : 18 ≤ w m ∧ w m ≤ 23) (h1 : Eo w 2 i m) (h2 : Eo w 2 (m + 1) j) : Eo w 3 i j := by
  obtain ⟨n, a, b⟩ := h1.two h2
  exact ⟨n + 1, by rw [Ex]; exact Or.inr (Or.inl ⟨m, h, a, b⟩)⟩
theorem eo3n {i j : Nat} (h : w i = 31) (h2 : Eo w 3 (i + 1) j) : Eo w 3 i j := by
  obtain ⟨n, a⟩ := h2
  exact ⟨n + 1, by rw [Ex]; exact Or.inr (Or.inr ⟨h, a⟩)⟩
theorem eo4 {i m j : Nat} (h : w m = 29) (h1 : Eo w 4 i m) (h2 : Eo w 3 (m + 1) j) : Eo w 4 i j := by
  obtain ⟨n, a, b⟩ := h1.two h2
  exact ⟨n + 1, by rw [Ex]; exact Or.inr ⟨m, h, a, b⟩⟩
theorem eo5 {i m j : Nat} (h : w m = 30) (h1 : Eo w 5 i m) (h2 : Eo w 4 (m + 1) j) : Eo w 5 i j := by
  obtain ⟨n, a, b⟩ := h1.two h2
  exact ⟨n + 1, by rw [Ex]; exact Or.inr ⟨m, h, a, b⟩⟩
theorem eo6 {i m q j : Nat} (h : w m = 32) (hq : w q = 33) (h1 : Eo w 5 i m) (h2 : Eo w 6 (m + 1) q) (h3 : Eo w 6 (q + 1) j) : Eo w 6 i j := by
  obtain ⟨n, a, b⟩ := h1.two h2
  obtain ⟨n', c⟩ := h3
  exact ⟨n + n' + 1, by rw [Ex]; exact Or.inr ⟨m, q, h, hq, a.le (by omega), b.le (by omega), c.le (by omega)⟩⟩
theorem eo7 {i m j : Nat} (h : w m = 35) (h1 : Eo w 7 i m) (h2 : Eo w 6 (m + 1) j) : Eo w 7 i j := by
  obtain ⟨n, a, b⟩ := h1.two h2
  exact ⟨n + 1, by rw [Ex]; exact Or.inr ⟨m, h, a, b⟩⟩
end EX
end
section
/-! The reference: what readText accepts is made of expressions. -/
section DE
variable {w : Nat → Int} {n : Nat}
theorem ac_t {f k : Nat} {x : Int} {r : List Int} (hx : x < 50) (h : Ac w n f (x :: r) k) : ∃ g, g < f ∧ w k = x ∧ Ac w n g r (k + 1) := by
  cases f with
  | zero => exact absurd h.1 (by simp)
  | succ f =>
    have h' : (if x = 75 then Ac w n f r k else if x < 50 then w k = x ∧ Ac w n f r (k + 1) else ∃ ys t, ex x (w k) = some (ys, t) ∧ Ac w n f (ys ++ r) (k + t)) := h
    rw [if_neg (by omega), if_pos hx] at h'
    exact ⟨f, by omega, h'.1, h'.2⟩
theorem ac_l {f k : Nat} {r : List Int} (h : Ac w n f (75 :: r) k) : ∃ g, g < f ∧ Ac w n g r k := by
  cases f with
  | zero => exact absurd h.1 (by simp)
  | succ f =>
    have h' : (if (75 : Int) = 75 then Ac w n f r k else if (75 : Int) < 50 then w k = 75 ∧ Ac w n f r (k + 1) else ∃ ys t, ex 75 (w k) = some (ys, t) ∧ Ac w n f (ys ++ r) (k + t)) := h
    rw [if_pos rfl] at h'
    exact ⟨f, by omega, h'⟩
theorem ac_n {f k : Nat} {x : Int} {r : List Int} (hx : 50 ≤ x) (h75 : x ≠ 75) (h : Ac w n f (x :: r) k) : ∃ g ys t, g < f ∧ ex x (w k) = some (ys, t) ∧ Ac w n g (ys ++ r) (k + t) := by
  cases f with
  | zero => exact absurd h.1 (by simp)
  | succ f =>
    have h' : (if x = 75 then Ac w n f r k else if x < 50 then w k = x ∧ Ac w n f r (k + 1) else ∃ ys t, ex x (w k) = some (ys, t) ∧ Ac w n f (ys ++ r) (k + t)) := h
    rw [if_neg h75, if_neg (by omega)] at h'
    obtain ⟨ys, t, e, a⟩ := h'
    exact ⟨f, ys, t, by omega, e, a⟩
def prs : List (Int × Nat) := [(73, 0), (71, 1), (69, 2), (67, 3), (65, 4), (63, 5), (61, 6)]
def rsts : List (Int × Nat × Nat) := [(72, 1, 1), (70, 2, 2), (68, 2, 3), (66, 4, 4), (64, 5, 5), (62, 5, 6), (74, 7, 7)]
def Dm (w : Nat → Int) (n f : Nat) : Prop := ∀ x c, (x, c) ∈ prs → ∀ r k, Ac w n f (x :: r) k → ∃ j g, g < f ∧ k < j ∧ Eo w c k j ∧ Ac w n g r j
def Dr (w : Nat → Int) (n f : Nat) : Prop := ∀ x c0 c1, (x, c0, c1) ∈ rsts → ∀ r i k, Eo w c0 i k → Ac w n f (x :: r) k → ∃ j g, g < f ∧ k ≤ j ∧ Eo w c1 i j ∧ Ac w n g r j
/-- first a part, then its rest -/
theorem d_pair {f g k : Nat} {x y : Int} {c0 c1 : Nat} {r : List Int} (ih : ∀ f', f' < f → Dm w n f' ∧ Dr w n f') (hg : g < f) (hx : (x, c0) ∈ prs) (hy : (y, c0, c1) ∈ rsts) (h : Ac w n g (x :: y :: r) k) : ∃ j g', g' < f ∧ k < j ∧ Eo w c1 k j ∧ Ac w n g' r j := by
  obtain ⟨j, g1, a1, a2, a3, a4⟩ := (ih g hg).1 x c0 hx _ k h
  obtain ⟨j', g2, b1, b2, b3, b4⟩ := (ih g1 (by omega)).2 y c0 c1 hy r k j a3 a4
  exact ⟨j', g2, by omega, by omega, b3, b4⟩
/-- an operator, a part, and the rest again -/
theorem d_again {f g i k : Nat} {x y : Int} {c0 c1 c2 : Nat} {r : List Int} (ih : ∀ f', f' < f → Dm w n f' ∧ Dr w n f') (hg : g < f) (hx : (x, c0) ∈ prs) (hy : (y, c1, c2) ∈ rsts) (hop : ∀ j, Eo w c0 (k + 1) j → Eo w c1 i j) (h : Ac w n g (x :: y :: r) (k + 1)) : ∃ j g', g' < f ∧ k ≤ j ∧ Eo w c2 i j ∧ Ac w n g' r j := by
  obtain ⟨j, g1, a1, a2, a3, a4⟩ := (ih g hg).1 x c0 hx _ (k + 1) h
  obtain ⟨j', g2, b1, b2, b3, b4⟩ := (ih g1 (by omega)).2 y c1 c2 hy r i j (hop j a3) a4
  exact ⟨j', g2, by omega, by omega, b3, b4⟩
theorem d_all : ∀ f, Dm w n f ∧ Dr w n f := by
  intro f
  induction f using Nat.strongRecOn with
  | ind f ih =>
    refine ⟨fun x c hx r k h => ?_, fun x c0 c1 hx r i k he h => ?_⟩
    · have hx' : (x = 73 ∧ c = 0) ∨ (x = 71 ∧ c = 1) ∨ (x = 69 ∧ c = 2) ∨ (x = 67 ∧ c = 3) ∨ (x = 65 ∧ c = 4) ∨ (x = 63 ∧ c = 5) ∨ (x = 61 ∧ c = 6) := by
        unfold prs at hx
        simpa using hx
      rcases hx' with ⟨q1, q2⟩ | ⟨q1, q2⟩ | ⟨q1, q2⟩ | ⟨q1, q2⟩ | ⟨q1, q2⟩ | ⟨q1, q2⟩ | ⟨q1, q2⟩ <;> subst q1 q2
      · obtain ⟨g, ys, t, hg, e, a⟩ := ac_n (by omega) (by omega) h
        rw [ex_73] at e
        unfold ex73 at e
        by_cases c1 : w k = 1 ∨ w k = 2 ∨ w k = 12 ∨ w k = 13
        · rw [if_pos c1] at e
          cases e
          exact ⟨k + 1, g, hg, by omega, eo0_leaf c1, a⟩
        rw [if_neg c1] at e
        by_cases c2 : w k = 14 ∨ w k = 15
        · rw [if_pos c2] at e
          cases e
          have a' : Ac w n g (76 :: 61 :: 74 :: 37 :: 75 :: r) (k + 1) := a
          obtain ⟨g1, ys1, t1, b1, e1, a1⟩ := ac_n (by omega) (by omega) a'
          rw [ex_76] at e1
          unfold ex76 at e1
          by_cases c3 : w (k + 1) = 36
          · rw [if_pos c3] at e1
            cases e1
            have a1' : Ac w n g1 (61 :: 74 :: 37 :: 75 :: r) (k + 2) := a1
            obtain ⟨j, g2, d1, d2, d3, d4⟩ := (ih g1 (by omega)).1 61 6 (by decide) _ _ a1'
            obtain ⟨j', g3, d5, d6, d7, d8⟩ := (ih g2 (by omega)).2 74 7 7 (by decide) _ (k + 2) j (d3.one (by omega)) d4
            obtain ⟨g4, d9, d10, d11⟩ := ac_t (by omega) d8
            obtain ⟨g5, d12, d13⟩ := ac_l d11
            exact ⟨j' + 1, g5, by omega, by omega, eo0_lst c2 c3 d10 d7, d13⟩
          · rw [if_neg c3] at e1
            cases e1
        rw [if_neg c2] at e
        by_cases c3 : w k = 25
        · rw [if_pos c3] at e
          cases e
          have a' : Ac w n g (73 :: 75 :: r) (k + 1) := a
          obtain ⟨j, g2, d1, d2, d3, d4⟩ := (ih g hg).1 73 0 (by decide) _ _ a'
          obtain ⟨g5, d12, d13⟩ := ac_l d4
          exact ⟨j, g5, by omega, by omega, eo0_neg c3 d3, d13⟩
        rw [if_neg c3] at e
        by_cases c4 : w k = 36
        · rw [if_pos c4] at e
          cases e
          have a' : Ac w n g (61 :: 37 :: 75 :: r) (k + 1) := a
          obtain ⟨j, g2, d1, d2, d3, d4⟩ := (ih g hg).1 61 6 (by decide) _ _ a'
          obtain ⟨g4, d9, d10, d11⟩ := ac_t (by omega) d4
          obtain ⟨g5, d12, d13⟩ := ac_l d11
          exact ⟨j + 1, g5, by omega, by omega, eo0_par c4 d10 d3, d13⟩
        rw [if_neg c4] at e
        cases e
      · obtain ⟨g, ys, t, hg, e, a⟩ := ac_n (by omega) (by omega) h
        rw [ex_71] at e
        unfold ex71 at e
        cases e
        have a' : Ac w n g (73 :: 72 :: r) k := a
        obtain ⟨j, g2, d1, d2, d3, d4⟩ := (ih g hg).1 73 0 (by decide) _ _ a'
        obtain ⟨j', g3, d5, d6, d7, d8⟩ := (ih g2 (by omega)).2 72 1 1 (by decide) _ k j (d3.one (by omega)) d4
        exact ⟨j', g3, by omega, by omega, d7, d8⟩
      · obtain ⟨g, ys, t, hg, e, a⟩ := ac_n (by omega) (by omega) h
        rw [ex_69] at e
        unfold ex69 at e
        cases e
        have a' : Ac w n g (71 :: 70 :: r) k := a
        obtain ⟨j, g2, d1, d2, d3, d4⟩ := (ih g hg).1 71 1 (by decide) _ _ a'
        obtain ⟨j', g3, d5, d6, d7, d8⟩ := (ih g2 (by omega)).2 70 2 2 (by decide) _ k j (d3.one (by omega)) d4
        exact ⟨j', g3, by omega, by omega, d7, d8⟩
      · obtain ⟨g, ys, t, hg, e, a⟩ := ac_n (by omega) (by omega) h
        rw [ex_67] at e
        unfold ex67 at e
        by_cases c1 : w k = 31
        · rw [if_pos c1] at e
          cases e
          have a' : Ac w n g (67 :: 75 :: r) (k + 1) := a
          obtain ⟨j, g2, d1, d2, d3, d4⟩ := (ih g hg).1 67 3 (by decide) _ _ a'
          obtain ⟨g5, d12, d13⟩ := ac_l d4
          exact ⟨j, g5, by omega, by omega, eo3n c1 d3, d13⟩
        · rw [if_neg c1] at e
          cases e
          have a' : Ac w n g (69 :: 68 :: r) k := a
          exact d_pair ih hg (c0 := 2) (by decide) (by decide) a'
      · obtain ⟨g, ys, t, hg, e, a⟩ := ac_n (by omega) (by omega) h
        rw [ex_65] at e
        unfold ex65 at e
        cases e
        have a' : Ac w n g (67 :: 66 :: r) k := a
        obtain ⟨j, g2, d1, d2, d3, d4⟩ := (ih g hg).1 67 3 (by decide) _ _ a'
        obtain ⟨j', g3, d5, d6, d7, d8⟩ := (ih g2 (by omega)).2 66 4 4 (by decide) _ k j (d3.one (by omega)) d4
        exact ⟨j', g3, by omega, by omega, d7, d8⟩
      · obtain ⟨g, ys, t, hg, e, a⟩ := ac_n (by omega) (by omega) h
        rw [ex_63] at e
        unfold ex63 at e
        cases e
        have a' : Ac w n g (65 :: 64 :: r) k := a
        obtain ⟨j, g2, d1, d2, d3, d4⟩ := (ih g hg).1 65 4 (by decide) _ _ a'
        obtain ⟨j', g3, d5, d6, d7, d8⟩ := (ih g2 (by omega)).2 64 5 5 (by decide) _ k j (d3.one (by omega)) d4
        exact ⟨j', g3, by omega, by omega, d7, d8⟩
      · obtain ⟨g, ys, t, hg, e, a⟩ := ac_n (by omega) (by omega) h
        rw [ex_61] at e
        unfold ex61 at e
        cases e
        have a' : Ac w n g (63 :: 62 :: r) k := a
        exact d_pair ih hg (c0 := 5) (by decide) (by decide) a'
    · have hx' : (x = 72 ∧ c0 = 1 ∧ c1 = 1) ∨ (x = 70 ∧ c0 = 2 ∧ c1 = 2) ∨ (x = 68 ∧ c0 = 2 ∧ c1 = 3) ∨ (x = 66 ∧ c0 = 4 ∧ c1 = 4) ∨ (x = 64 ∧ c0 = 5 ∧ c1 = 5) ∨ (x = 62 ∧ c0 = 5 ∧ c1 = 6) ∨ (x = 74 ∧ c0 = 7 ∧ c1 = 7) := by
        unfold rsts at hx
        simpa using hx
      rcases hx' with ⟨q1, q2, q3⟩ | ⟨q1, q2, q3⟩ | ⟨q1, q2, q3⟩ | ⟨q1, q2, q3⟩ | ⟨q1, q2, q3⟩ | ⟨q1, q2, q3⟩ | ⟨q1, q2, q3⟩ <;> subst q1 q2 q3
      · obtain ⟨g, ys, t, hg, e, a⟩ := ac_n (by omega) (by omega) h
        rw [ex_72] at e
        unfold ex72 at e
        by_cases c1 : w k = 26 ∨ w k = 27 ∨ w k = 28
        · rw [if_pos c1] at e
          cases e
          exact d_again ih hg (x := 73) (y := 72) (c0 := 0) (c1 := 1) (by decide) (by decide) (fun j z => eo1 c1 he z) a
        · rw [if_neg c1] at e
          cases e
          exact ⟨k, g, hg, by omega, he, a⟩
      · obtain ⟨g, ys, t, hg, e, a⟩ := ac_n (by omega) (by omega) h
        rw [ex_70] at e
        unfold ex70 at e
        by_cases c1 : w k = 24 ∨ w k = 25
        · rw [if_pos c1] at e
          cases e
          exact d_again ih hg (x := 71) (y := 70) (c0 := 1) (c1 := 2) (by decide) (by decide) (fun j z => eo2 c1 he z) a
        · rw [if_neg c1] at e
          cases e
          exact ⟨k, g, hg, by omega, he, a⟩
      · obtain ⟨g, ys, t, hg, e, a⟩ := ac_n (by omega) (by omega) h
        rw [ex_68] at e
        unfold ex68 at e
        by_cases c1 : 18 ≤ w k ∧ w k ≤ 23
        · rw [if_pos c1] at e
          cases e
          have a' : Ac w n g (69 :: r) (k + 1) := a
          obtain ⟨j, g2, d1, d2, d3, d4⟩ := (ih g hg).1 69 2 (by decide) _ _ a'
          exact ⟨j, g2, by omega, by omega, eo3 c1 he d3, d4⟩
        · rw [if_neg c1] at e
          cases e
          exact ⟨k, g, hg, by omega, he.one (by omega), a⟩
      · obtain ⟨g, ys, t, hg, e, a⟩ := ac_n (by omega) (by omega) h
        rw [ex_66] at e
        unfold ex66 at e
        by_cases c1 : w k = 29
        · rw [if_pos c1] at e
          cases e
          exact d_again ih hg (x := 67) (y := 66) (c0 := 3) (c1 := 4) (by decide) (by decide) (fun j z => eo4 c1 he z) a
        · rw [if_neg c1] at e
          cases e
          exact ⟨k, g, hg, by omega, he, a⟩
      · obtain ⟨g, ys, t, hg, e, a⟩ := ac_n (by omega) (by omega) h
        rw [ex_64] at e
        unfold ex64 at e
        by_cases c1 : w k = 30
        · rw [if_pos c1] at e
          cases e
          exact d_again ih hg (x := 65) (y := 64) (c0 := 4) (c1 := 5) (by decide) (by decide) (fun j z => eo5 c1 he z) a
        · rw [if_neg c1] at e
          cases e
          exact ⟨k, g, hg, by omega, he, a⟩
      · obtain ⟨g, ys, t, hg, e, a⟩ := ac_n (by omega) (by omega) h
        rw [ex_62] at e
        unfold ex62 at e
        by_cases c1 : w k = 32
        · rw [if_pos c1] at e
          cases e
          have a' : Ac w n g (61 :: 33 :: 61 :: 75 :: r) (k + 1) := a
          obtain ⟨j, g2, d1, d2, d3, d4⟩ := (ih g hg).1 61 6 (by decide) _ _ a'
          obtain ⟨g3, d5, d6, d7⟩ := ac_t (by omega) d4
          obtain ⟨j', g4, d8, d9, d10, d11⟩ := (ih g3 (by omega)).1 61 6 (by decide) _ _ d7
          obtain ⟨g5, d12, d13⟩ := ac_l d11
          exact ⟨j', g5, by omega, by omega, eo6 c1 d6 he d3 d10, d13⟩
        · rw [if_neg c1] at e
          cases e
          exact ⟨k, g, hg, by omega, he.one (by omega), a⟩
      · obtain ⟨g, ys, t, hg, e, a⟩ := ac_n (by omega) (by omega) h
        rw [ex_74] at e
        unfold ex74 at e
        by_cases c1 : w k = 35
        · rw [if_pos c1] at e
          cases e
          exact d_again ih hg (x := 61) (y := 74) (c0 := 6) (c1 := 7) (by decide) (by decide) (fun j z => eo7 c1 he z) a
        · rw [if_neg c1] at e
          cases e
          exact ⟨k, g, hg, by omega, he, a⟩
/-- a rule is wanted: an expression stands there -/
theorem ac_rule {f k : Nat} {r : List Int} (h : Ac w n f (61 :: r) k) : ∃ j g, g < f ∧ k < j ∧ Eo w 6 k j ∧ Ac w n g r j := (d_all f).1 61 6 (by decide) r k h
theorem ac_or {f k : Nat} {r : List Int} (h : Ac w n f (63 :: r) k) : ∃ j g, g < f ∧ k < j ∧ Eo w 5 k j ∧ Ac w n g r j := (d_all f).1 63 5 (by decide) r k h
end DE
end
section
/-! The reference: how deep a word stands. -/
section SC
variable (w : Nat → Int)
/-- how many parentheses are open after m words from i on -/
def dp (i : Nat) : Nat → Int
  | 0 => 0
  | m + 1 => dp i m + (if w (i + m) = 36 then 1 else if w (i + m) = 37 then -1 else 0)
/-- how many questions are open there, outside parentheses -/
def aq (i : Nat) : Nat → Int
  | 0 => 0
  | m + 1 => if 0 < dp w i m then aq i m else aq i m + (if w (i + m) = 32 then 1 else if w (i + m) = 33 then -1 else 0)
/-- an operand ends here -/
def opd (x : Int) : Prop := x = 1 ∨ x = 2 ∨ x = 12 ∨ x = 13 ∨ x = 37
/-- how loosely the word at k binds -/
def lz (i k : Nat) : Nat := if w k = 32 then 6 else if w k = 30 then 5 else if w k = 29 then 4 else if 18 ≤ w k ∧ w k ≤ 23 then 3 else if w k = 24 ∨ w k = 25 then (if i < k ∧ (w (k - 1) = 1 ∨ w (k - 1) = 2 ∨ w (k - 1) = 12 ∨ w (k - 1) = 13 ∨ w (k - 1) = 37) then 2 else 0) else if 26 ≤ w k ∧ w k ≤ 28 then 1 else 0
/-- words that rules are made of -/
def rwd (x : Int) : Prop := x = 1 ∨ x = 2 ∨ (12 ≤ x ∧ x ≤ 15) ∨ (18 ≤ x ∧ x ≤ 33) ∨ (35 ≤ x ∧ x ≤ 37)
/-- a rule's first word -/
def fwd (x : Int) : Prop := x = 1 ∨ x = 2 ∨ (12 ≤ x ∧ x ≤ 15) ∨ x = 25 ∨ x = 31 ∨ x = 36
end SC
section SC
variable {w : Nat → Int}
theorem dp_s {i m : Nat} : dp w i (m + 1) = dp w i m + (if w (i + m) = 36 then 1 else if w (i + m) = 37 then -1 else 0) := rfl
theorem aq_s {i m : Nat} : aq w i (m + 1) = if 0 < dp w i m then aq w i m else aq w i m + (if w (i + m) = 32 then 1 else if w (i + m) = 33 then -1 else 0) := rfl
theorem dp_app {i : Nat} (a : Nat) : ∀ b, dp w i (a + b) = dp w i a + dp w (i + a) b
  | 0 => by show dp w i a = dp w i a + 0; omega
  | b + 1 => by
    have e : a + (b + 1) = (a + b) + 1 := rfl
    rw [e, dp_s, dp_s, dp_app a b, Nat.add_assoc i a b]
    omega
theorem aq_app {i a : Nat} (h : dp w i a = 0) : ∀ b, aq w i (a + b) = aq w i a + aq w (i + a) b
  | 0 => by show aq w i a = aq w i a + 0; omega
  | b + 1 => by
    have e : a + (b + 1) = (a + b) + 1 := rfl
    rw [e, aq_s, aq_s, aq_app h b, dp_app, h, show (0 : Int) + dp w (i + a) b = dp w (i + a) b by omega, Nat.add_assoc i a b]
    split <;> omega
/-- balanced: parentheses and questions close, none before it was opened; no colon of another question -/
def Bl (w : Nat → Int) (i l : Nat) : Prop := dp w i l = 0 ∧ aq w i l = 0 ∧ (∀ m, m ≤ l → 0 ≤ dp w i m ∧ 0 ≤ aq w i m) ∧ (∀ m, m < l → rwd (w (i + m)) ∧ (dp w i m = 0 → aq w i m = 0 → w (i + m) ≠ 33))
/-- no question outside parentheses -/
def Nq (w : Nat → Int) (i l : Nat) : Prop := ∀ m, m < l → dp w i m = 0 → w (i + m) ≠ 32
/-- two balanced stretches with a plain word between them -/
theorem Bl.join {i a b : Nat} (h1 : Bl w i a) (h2 : Bl w (i + a + 1) b) (hp : rwd (w (i + a))) (h36 : w (i + a) ≠ 36) (h37 : w (i + a) ≠ 37) (h32 : w (i + a) ≠ 32) (h33 : w (i + a) ≠ 33) : Bl w i (a + 1 + b) := by
  have d1 : dp w i (a + 1) = 0 := by show dp w i a + _ = 0; rw [if_neg h36, if_neg h37, h1.1]; omega
  have a1 : aq w i (a + 1) = 0 := by
    show (if 0 < dp w i a then aq w i a else aq w i a + _) = 0
    rw [h1.1, if_neg (by omega), if_neg h32, if_neg h33, h1.2.1]; omega
  have e : i + (a + 1) = i + a + 1 := by omega
  refine ⟨by rw [dp_app, d1, e, h2.1]; omega, by rw [aq_app d1, a1, e, h2.2.1]; omega, fun m hm => ?_, fun m hm => ?_⟩
  · by_cases z : m ≤ a
    · exact h1.2.2.1 m z
    · have k := h2.2.2.1 (m - (a + 1)) (by omega)
      rw [show m = (a + 1) + (m - (a + 1)) by omega, dp_app, aq_app d1, d1, a1, e]
      omega
  · by_cases z : m < a
    · exact h1.2.2.2 m z
    · by_cases y : m = a
      · rw [y]; exact ⟨hp, fun _ _ => h33⟩
      · have k := h2.2.2.2 (m - (a + 1)) (by omega)
        rw [show i + a + 1 + (m - (a + 1)) = i + m by omega] at k
        refine ⟨k.1, fun q1 q2 => k.2 ?_ ?_⟩
        · rw [show m = (a + 1) + (m - (a + 1)) by omega, dp_app, d1, e] at q1
          omega
        · rw [show m = (a + 1) + (m - (a + 1)) by omega, aq_app d1, a1, e] at q2
          omega
theorem Nq.join {i a b : Nat} (b1 : Bl w i a) (h1 : Nq w i a) (h2 : Nq w (i + a + 1) b) (h36 : w (i + a) ≠ 36) (h37 : w (i + a) ≠ 37) (h32 : w (i + a) ≠ 32) : Nq w i (a + 1 + b) := by
  have d1 : dp w i (a + 1) = 0 := by show dp w i a + _ = 0; rw [if_neg h36, if_neg h37, b1.1]; omega
  have e : i + (a + 1) = i + a + 1 := by omega
  intro m hm q
  by_cases z : m < a
  · exact h1 m z q
  · by_cases y : m = a
    · rw [y]; exact h32
    · have k := h2 (m - (a + 1)) (by omega)
      rw [show i + a + 1 + (m - (a + 1)) = i + m by omega] at k
      refine k ?_
      rw [show m = (a + 1) + (m - (a + 1)) by omega, dp_app, d1, e] at q
      omega
/-- one plain word, then a balanced stretch -/
theorem Bl.cons {i b : Nat} (h2 : Bl w (i + 1) b) (hp : rwd (w i)) (h36 : w i ≠ 36) (h37 : w i ≠ 37) (h32 : w i ≠ 32) (h33 : w i ≠ 33) : Bl w i (1 + b) := by
  have h0 : Bl w i 0 := ⟨rfl, rfl, fun m hm => by have : m = 0 := by omega
                                                  subst this; exact ⟨Int.le_refl _, Int.le_refl _⟩, fun m hm => by omega⟩
  have := h0.join (b := b) (by rw [show i + 0 + 1 = i + 1 by omega]; exact h2) hp h36 h37 h32 h33
  rw [show 0 + 1 + b = 1 + b by omega] at this
  exact this
theorem Nq.cons {i b : Nat} (h2 : Nq w (i + 1) b) (h36 : w i ≠ 36) (h37 : w i ≠ 37) (h32 : w i ≠ 32) : Nq w i (1 + b) := by
  have h0 : Bl w i 0 := ⟨rfl, rfl, fun m hm => by have : m = 0 := by omega
                                                  subst this; exact ⟨Int.le_refl _, Int.le_refl _⟩, fun m hm => by omega⟩
  have := Nq.join (a := 0) (b := b) h0 (fun m hm => by omega) (by rw [show i + 0 + 1 = i + 1 by omega]; exact h2) h36 h37 h32
  rw [show 0 + 1 + b = 1 + b by omega] at this
  exact this
/-- parentheses around a balanced stretch -/
theorem Bl.paren {i b : Nat} (h2 : Bl w (i + 1) b) (h36 : w i = 36) (h37 : w (i + 1 + b) = 37) : Bl w i (b + 2) ∧ (∀ m, 1 ≤ m → m ≤ b + 1 → 1 ≤ dp w i m) := by
  have d1 : dp w i 1 = 1 := by show dp w i 0 + _ = 1; rw [show i + 0 = i by omega, if_pos h36]; rfl
  have dd : ∀ m, 1 ≤ m → m ≤ b + 1 → dp w i m = 1 + dp w (i + 1) (m - 1) := fun m h1 h3 => by
    rw [show m = 1 + (m - 1) by omega, dp_app, d1, show 1 + (m - 1) - 1 = m - 1 by omega]
  have dpos : ∀ m, 1 ≤ m → m ≤ b + 1 → 1 ≤ dp w i m := fun m h1 h3 => by
    have := dd m h1 h3
    have := h2.2.2.1 (m - 1) (by omega)
    omega
  have aqz : ∀ m, m ≤ b + 1 → aq w i m = 0 := by
    intro m
    induction m with
    | zero => intro _; rfl
    | succ m ih =>
      intro hm
      have e := ih (by omega)
      show (if 0 < dp w i m then aq w i m else aq w i m + _) = 0
      by_cases z : m = 0
      · subst z
        rw [if_neg (by show ¬ (0 : Int) < 0; omega), show i + 0 = i by omega, if_neg (by omega), if_neg (by omega), e]; omega
      · rw [if_pos (by have := dpos m (by omega) (by omega); omega)]; exact e
  have dl : dp w i (b + 2) = 0 := by
    show dp w i (b + 1) + _ = 0
    rw [show i + (b + 1) = i + 1 + b by omega, if_neg (by omega), if_pos h37, dd (b + 1) (by omega) (by omega), show b + 1 - 1 = b by omega, h2.1]
    omega
  have al : aq w i (b + 2) = 0 := by
    show (if 0 < dp w i (b + 1) then aq w i (b + 1) else aq w i (b + 1) + _) = 0
    rw [if_pos (by have := dpos (b + 1) (by omega) (by omega); omega)]
    exact aqz _ (by omega)
  refine ⟨⟨dl, al, fun m hm => ?_, fun m hm => ?_⟩, dpos⟩
  · by_cases z : m = b + 2
    · rw [z, dl, al]; omega
    · rw [aqz m (by omega)]
      by_cases y : m = 0
      · subst y; exact ⟨Int.le_refl _, Int.le_refl _⟩
      · have := dpos m (by omega) (by omega)
        omega
  · by_cases y : m = 0
    · subst y
      rw [show i + 0 = i by omega, h36]
      exact ⟨by unfold rwd; omega, fun _ _ => by omega⟩
    · by_cases z : m = b + 1
      · rw [z, show i + (b + 1) = i + 1 + b by omega, h37]
        exact ⟨by unfold rwd; omega, fun _ _ => by omega⟩
      · have k := (h2.2.2.2 (m - 1) (by omega)).1
        rw [show i + 1 + (m - 1) = i + m by omega] at k
        exact ⟨k, fun q _ => by have := dpos m (by omega) (by omega); omega⟩
end SC
end
section
/-! The reference: the shape of an expression's words. -/
section SH
variable {w : Nat → Int}
theorem Bl.ask {i a b c : Nat} (h1 : Bl w i a) (h2 : Bl w (i + a + 1) b) (h3 : Bl w (i + a + 1 + b + 1) c) (hp : w (i + a) = 32) (hq : w (i + a + 1 + b) = 33) : Bl w i (a + 1 + b + 1 + c) := by
  have d1 : dp w i (a + 1) = 0 := by rw [dp_s, if_neg (by omega), if_neg (by omega), h1.1]; omega
  have a1 : aq w i (a + 1) = 1 := by rw [aq_s, h1.1, if_neg (by omega), if_pos hp, h1.2.1]; omega
  have e : i + (a + 1) = i + a + 1 := by omega
  have d2 : dp w i (a + 1 + b) = 0 := by rw [dp_app, d1, e, h2.1]; omega
  have a2 : aq w i (a + 1 + b) = 1 := by rw [aq_app d1, a1, e, h2.2.1]; omega
  have e2 : i + (a + 1 + b) = i + a + 1 + b := by omega
  have d3 : dp w i (a + 1 + b + 1) = 0 := by rw [dp_s, e2, if_neg (by omega), if_neg (by omega), d2]; omega
  have a3 : aq w i (a + 1 + b + 1) = 0 := by rw [aq_s, d2, if_neg (by omega), e2, if_neg (by omega), if_pos hq, a2]; omega
  have e3 : i + (a + 1 + b + 1) = i + a + 1 + b + 1 := by omega
  refine ⟨by rw [dp_app, d3, e3, h3.1]; omega, by rw [aq_app d3, a3, e3, h3.2.1]; omega, fun m hm => ?_, fun m hm => ?_⟩
  · by_cases z : m ≤ a
    · exact h1.2.2.1 m z
    · by_cases y : m ≤ a + 1 + b
      · have k := h2.2.2.1 (m - (a + 1)) (by omega)
        rw [show m = (a + 1) + (m - (a + 1)) by omega, dp_app, aq_app d1, d1, a1, e]
        omega
      · have k := h3.2.2.1 (m - (a + 1 + b + 1)) (by omega)
        rw [show m = (a + 1 + b + 1) + (m - (a + 1 + b + 1)) by omega, dp_app, aq_app d3, d3, a3, e3]
        omega
  · by_cases z : m < a
    · exact h1.2.2.2 m z
    · by_cases y : m = a
      · rw [y, hp]; exact ⟨by unfold rwd; omega, fun _ _ => by omega⟩
      · by_cases x : m < a + 1 + b
        · have k := h2.2.2.2 (m - (a + 1)) (by omega)
          have p := h2.2.2.1 (m - (a + 1)) (by omega)
          rw [show i + a + 1 + (m - (a + 1)) = i + m by omega] at k
          refine ⟨k.1, fun q1 q2 => ?_⟩
          rw [show m = (a + 1) + (m - (a + 1)) by omega, aq_app d1, a1, e] at q2
          omega
        · by_cases v : m = a + 1 + b
          · rw [v, e2, hq]
            exact ⟨by unfold rwd; omega, fun _ q2 => by omega⟩
          · have k := h3.2.2.2 (m - (a + 1 + b + 1)) (by omega)
            rw [show i + a + 1 + b + 1 + (m - (a + 1 + b + 1)) = i + m by omega] at k
            refine ⟨k.1, fun q1 q2 => k.2 ?_ ?_⟩
            · rw [show m = (a + 1 + b + 1) + (m - (a + 1 + b + 1)) by omega, dp_app, d3, e3] at q1
              omega
            · rw [show m = (a + 1 + b + 1) + (m - (a + 1 + b + 1)) by omega, aq_app d3, a3, e3] at q2
              omega
theorem lz_le {i k : Nat} : lz w i k ≤ 6 := by
  unfold lz
  by_cases c1 : w k = 32
  · rw [if_pos c1]; omega
  rw [if_neg c1]
  by_cases c2 : w k = 30
  · rw [if_pos c2]; omega
  rw [if_neg c2]
  by_cases c3 : w k = 29
  · rw [if_pos c3]; omega
  rw [if_neg c3]
  by_cases c4 : 18 ≤ w k ∧ w k ≤ 23
  · rw [if_pos c4]; omega
  rw [if_neg c4]
  by_cases c5 : w k = 24 ∨ w k = 25
  · rw [if_pos c5]; split <;> omega
  rw [if_neg c5]
  split <;> omega
theorem lz_c {i i' k : Nat} (h : i < k) (h' : i' < k) : lz w i k = lz w i' k := by
  unfold lz
  have e : (i < k ∧ (w (k - 1) = 1 ∨ w (k - 1) = 2 ∨ w (k - 1) = 12 ∨ w (k - 1) = 13 ∨ w (k - 1) = 37)) ↔ (i' < k ∧ (w (k - 1) = 1 ∨ w (k - 1) = 2 ∨ w (k - 1) = 12 ∨ w (k - 1) = 13 ∨ w (k - 1) = 37)) := ⟨fun q => ⟨h', q.2⟩, fun q => ⟨h, q.2⟩⟩
  simp only [e]
theorem lz_f {i k : Nat} (h : fwd (w k)) (h2 : i < k → ¬ opd (w (k - 1))) : lz w i k = 0 := by
  unfold fwd at h
  unfold lz
  rw [if_neg (by omega), if_neg (by omega), if_neg (by omega), if_neg (by omega)]
  by_cases c5 : w k = 24 ∨ w k = 25
  · rw [if_pos c5, if_neg (fun q => h2 q.1 q.2)]
  · rw [if_neg c5, if_neg (by omega)]
def Lb (w : Nat → Int) (c i l : Nat) : Prop := ∀ m, m < l → dp w i m = 0 → lz w i (i + m) ≤ c
theorem Lb.join {i a b c c1 c2 : Nat} (b1 : Bl w i a) (h1 : Lb w c1 i a) (h2 : Lb w c2 (i + a + 1) b) (hc1 : c1 ≤ c) (hc2 : c2 ≤ c) (hb : 0 < b) (h36 : w (i + a) ≠ 36) (h37 : w (i + a) ≠ 37) (hop : lz w i (i + a) ≤ c) (hno : ¬ opd (w (i + a))) (hf : fwd (w (i + a + 1))) : Lb w c i (a + 1 + b) := by
  have d1 : dp w i (a + 1) = 0 := by rw [dp_s, if_neg h36, if_neg h37, b1.1]; omega
  have e : i + (a + 1) = i + a + 1 := by omega
  intro m hm q
  by_cases z : m < a
  · have := h1 m z q; omega
  · by_cases y : m = a
    · rw [y]; exact hop
    · by_cases x : m = a + 1
      · rw [x, e, lz_f hf (fun _ => by rw [show i + a + 1 - 1 = i + a by omega]; exact hno)]; omega
      · rw [show m = (a + 1) + (m - (a + 1)) by omega, dp_app, d1, e] at q
        have k := h2 (m - (a + 1)) (by omega) (by omega)
        rw [show i + a + 1 + (m - (a + 1)) = i + m by omega] at k
        rw [lz_c (i' := i + a + 1) (by omega) (by omega)]
        omega
theorem Lb.cons {i b c : Nat} (h2 : Lb w c (i + 1) b) (hb : 0 < b) (h36 : w i ≠ 36) (h37 : w i ≠ 37) (hf0 : fwd (w i)) (hno : ¬ opd (w i)) (hf : fwd (w (i + 1))) : Lb w c i (1 + b) := by
  have h0 : Bl w i 0 := ⟨rfl, rfl, fun m hm => by have : m = 0 := by omega
                                                  subst this; exact ⟨Int.le_refl _, Int.le_refl _⟩, fun m hm => by omega⟩
  have := Lb.join (i := i) (a := 0) (b := b) (c := c) (c1 := 0) (c2 := c) h0 (fun m hm => by omega) h2 (by omega) (by omega) hb h36 h37 (by rw [show i + 0 = i by omega, lz_f hf0 (fun q => by omega)]; omega) hno hf
  rw [show 0 + 1 + b = 1 + b by omega] at this
  exact this
def Pr (w : Nat → Int) (c i j : Nat) : Prop := i < j ∧ fwd (w i) ∧ (c ≤ 2 → w i ≠ 31) ∧ opd (w (j - 1)) ∧ Bl w i (j - i) ∧ (c ≤ 5 → Nq w i (j - i)) ∧ Lb w c i (j - i)
/-- two parts joined by an operator -/
theorem Pr.join {c c1 c2 i m j : Nat} (h1 : Pr w c1 i m) (h2 : Pr w c2 (m + 1) j) (hc1 : c1 ≤ c) (hc2 : c2 ≤ c) (h2c : c ≤ 2 → c1 ≤ 2) (hq : c ≤ 5 → c1 ≤ 5 ∧ c2 ≤ 5) (hop : (24 ≤ w m ∧ w m ≤ 30) ∨ (18 ≤ w m ∧ w m ≤ 23) ∨ w m = 35) (hl : lz w i m ≤ c) : Pr w c i j := by
  obtain ⟨p1, p2, p3, p4, p5, p6, p7⟩ := h1
  obtain ⟨q1, q2, q3, q4, q5, q6, q7⟩ := h2
  have em : i + (m - i) = m := by omega
  have ej : j - i = (m - i) + 1 + (j - (m + 1)) := by omega
  refine ⟨by omega, p2, fun z => p3 (h2c z), q4, ?_, fun z => ?_, ?_⟩
  · rw [ej]
    exact p5.join (by rw [em]; exact q5) (by rw [em]; unfold rwd; omega) (by rw [em]; omega) (by rw [em]; omega) (by rw [em]; omega) (by rw [em]; omega)
  · rw [ej]
    exact Nq.join p5 (p6 (hq z).1) (by rw [em]; exact q6 (hq z).2) (by rw [em]; omega) (by rw [em]; omega) (by rw [em]; omega)
  · rw [ej]
    exact Lb.join p5 p7 (by rw [em]; exact q7) hc1 hc2 (by omega) (by rw [em]; omega) (by rw [em]; omega) (by rw [em]; exact hl) (by rw [em]; unfold opd; omega) (by rw [em]; exact q2)
theorem Pr.wk {c c' i j : Nat} (h : Pr w c i j) (hc : c ≤ c') (h2 : c' ≤ 2 → c ≤ 2) : Pr w c' i j := by
  obtain ⟨p1, p2, p3, p4, p5, p6, p7⟩ := h
  exact ⟨p1, p2, fun z => p3 (h2 z), p4, p5, fun z => p6 (by omega), fun m hm q => by have := p7 m hm q; omega⟩
theorem lz_26 {i m : Nat} (h : 26 ≤ w m ∧ w m ≤ 28) : lz w i m = 1 := by
  unfold lz
  rw [if_neg (by omega), if_neg (by omega), if_neg (by omega), if_neg (by omega), if_neg (by omega), if_pos h]
theorem lz_24 {i m : Nat} (h : w m = 24 ∨ w m = 25) (hi : i < m) (ho : opd (w (m - 1))) : lz w i m = 2 := by
  unfold lz
  rw [if_neg (by omega), if_neg (by omega), if_neg (by omega), if_neg (by omega), if_pos h, if_pos ⟨hi, ho⟩]
theorem lz_18 {i m : Nat} (h : 18 ≤ w m ∧ w m ≤ 23) : lz w i m = 3 := by
  unfold lz
  rw [if_neg (by omega), if_neg (by omega), if_neg (by omega), if_pos h]
theorem lz_29 {i m : Nat} (h : w m = 29) : lz w i m = 4 := by
  unfold lz
  rw [if_neg (by omega), if_neg (by omega), if_pos h]
theorem lz_30 {i m : Nat} (h : w m = 30) : lz w i m = 5 := by
  unfold lz
  rw [if_neg (by omega), if_pos h]
theorem lz_32 {i m : Nat} (h : w m = 32) : lz w i m = 6 := by
  unfold lz
  rw [if_pos h]
theorem lz_35 {i m : Nat} (h : w m = 35) : lz w i m = 0 := by
  unfold lz
  rw [if_neg (by omega), if_neg (by omega), if_neg (by omega), if_neg (by omega), if_neg (by omega), if_neg (by omega)]
/-- parentheses -/
theorem Pr.par {c i j : Nat} (h : Pr w c (i + 1) j) (h36 : w i = 36) (h37 : w j = 37) : Pr w 0 i (j + 1) := by
  obtain ⟨p1, p2, p3, p4, p5, p6, p7⟩ := h
  have ej : j + 1 - i = (j - (i + 1)) + 2 := by omega
  have em : i + 1 + (j - (i + 1)) = j := by omega
  obtain ⟨b, d⟩ := p5.paren h36 (by rw [em]; exact h37)
  refine ⟨by omega, by unfold fwd; omega, fun _ => by omega, by rw [show j + 1 - 1 = j by omega]; unfold opd; omega, by rw [ej]; exact b, fun _ m hm q => ?_, fun m hm q => ?_⟩
  · by_cases z : m = 0
    · rw [z, show i + 0 = i by omega]; omega
    · have := d m (by omega)
      by_cases y : m ≤ j - (i + 1) + 1
      · have := this y; omega
      · omega
  · by_cases z : m = 0
    · rw [z, show i + 0 = i by omega, lz_f (by unfold fwd; omega) (fun q => by omega)]; omega
    · have := d m (by omega)
      by_cases y : m ≤ j - (i + 1) + 1
      · have := this y; omega
      · omega
theorem Pr.pre {c c' i j : Nat} (h : Pr w c (i + 1) j) (hc : c ≤ c') (hw : w i = 25 ∨ w i = 31) (h3 : w i = 31 → 3 ≤ c') (hq : c' ≤ 5 → c ≤ 5) : Pr w c' i j := by
  obtain ⟨p1, p2, p3, p4, p5, p6, p7⟩ := h
  have ej : j - i = 1 + (j - (i + 1)) := by omega
  refine ⟨by omega, by unfold fwd; omega, fun z q => by have := h3 q; omega, p4, ?_, fun z => ?_, ?_⟩
  · rw [ej]
    exact p5.cons (by unfold rwd; omega) (by omega) (by omega) (by omega) (by omega)
  · rw [ej]
    exact Nq.cons (p6 (hq z)) (by omega) (by omega) (by omega)
  · rw [ej]
    refine fun m hm q => ?_
    have := Lb.cons p7 (by omega) (by omega) (by omega) (by unfold fwd; omega) (by unfold opd; omega) p2 m hm q
    omega
end SH
end
section
/-! The reference: where an expression is split. -/
section LO
variable {w : Nat → Int}
theorem Pr.pre2 {i j : Nat} (h : Pr w 0 (i + 1) j) (hw : w i = 14 ∨ w i = 15) : Pr w 0 i j := by
  obtain ⟨p1, p2, p3, p4, p5, p6, p7⟩ := h
  have ej : j - i = 1 + (j - (i + 1)) := by omega
  refine ⟨by omega, by unfold fwd; omega, fun z => by omega, p4, ?_, fun z => ?_, ?_⟩
  · rw [ej]
    exact p5.cons (by unfold rwd; omega) (by omega) (by omega) (by omega) (by omega)
  · rw [ej]
    exact Nq.cons (p6 (by omega)) (by omega) (by omega) (by omega)
  · rw [ej]
    exact Lb.cons p7 (by omega) (by omega) (by omega) (by unfold fwd; omega) (by unfold opd; omega) p2
theorem Pr.ask {i m q j : Nat} (h1 : Pr w 5 i m) (h2 : Pr w 6 (m + 1) q) (h3 : Pr w 6 (q + 1) j) (hm : w m = 32) (hq : w q = 33) : Pr w 6 i j := by
  obtain ⟨p1, p2, p3, p4, p5, p6, p7⟩ := h1
  obtain ⟨q1, q2, q3, q4, q5, q6, q7⟩ := h2
  obtain ⟨r1, r2, r3, r4, r5, r6, r7⟩ := h3
  have em : i + (m - i) = m := by omega
  have eq : m + 1 + (q - (m + 1)) = q := by omega
  refine ⟨by omega, p2, fun z => by omega, r4, ?_, fun z => by omega, fun m hm q => lz_le⟩
  rw [show j - i = (m - i) + 1 + (q - (m + 1)) + 1 + (j - (q + 1)) by omega]
  exact p5.ask (by rw [em]; exact q5) (by rw [em, eq]; exact r5) (by rw [em]; exact hm) (by rw [em, eq]; exact hq)
theorem ex_pr : ∀ {n c i j : Nat}, Ex w n c i j → Pr w c i j := by
  intro n
  induction n with
  | zero => intro c i j h; exact h.elim
  | succ n ih =>
    intro c i j h
    rw [Ex] at h
    by_cases c0 : c = 0
    · rw [if_pos c0] at h
      subst c0
      rcases h with ⟨h1, h2⟩ | ⟨h1, h2⟩ | ⟨h1, h2, h3⟩ | ⟨h1, h2, h3, h4⟩
      · subst h1
        have hb : Bl w i 1 := by
          have d1 : dp w i 1 = 0 := by rw [dp_s]; show (0 : Int) + _ = 0; rw [show i + 0 = i by omega, if_neg (by omega), if_neg (by omega)]; omega
          have a1 : aq w i 1 = 0 := by rw [aq_s, if_neg (by show ¬ (0 : Int) < 0; omega)]; show (0 : Int) + _ = 0; rw [show i + 0 = i by omega, if_neg (by omega), if_neg (by omega)]; omega
          refine ⟨d1, a1, fun m hm => ?_, fun m hm => ?_⟩
          · by_cases z : m = 0
            · subst z; exact ⟨Int.le_refl _, Int.le_refl _⟩
            · rw [show m = 1 by omega, d1, a1]; omega
          · rw [show m = 0 by omega, show i + 0 = i by omega]
            exact ⟨by unfold rwd; omega, fun _ _ => by omega⟩
        refine ⟨by omega, by unfold fwd; omega, fun _ => by omega, by rw [show i + 1 - 1 = i by omega]; unfold opd; omega, by rw [show i + 1 - i = 1 by omega]; exact hb, fun _ m hm q => ?_, fun m hm q => ?_⟩
        · rw [show m = 0 by omega, show i + 0 = i by omega]; omega
        · rw [show m = 0 by omega, show i + 0 = i by omega, lz_f (by unfold fwd; omega) (fun q => by omega)]; omega
      · exact (ih h2).pre (by omega) (Or.inl h1) (fun q => by omega) (fun _ => by omega)
      · have p := ih h3
        have hj : j = (j - 1) + 1 := by have := p.1; omega
        rw [hj]
        exact p.par h1 h2
      · have p := ih h4
        have hj : j = (j - 1) + 1 := by have := p.1; omega
        have k : Pr w 0 (i + 1) j := by
          rw [hj]
          exact Pr.par (c := 7) (by rw [show i + 1 + 1 = i + 2 by omega]; exact p) h2 h3
        exact k.pre2 h1
    rw [if_neg c0] at h
    by_cases c1 : c = 1
    · rw [if_pos c1] at h
      subst c1
      rcases h with h | ⟨m, h1, h2, h3⟩
      · exact (ih h).wk (by omega) (fun _ => by omega)
      · exact (ih h2).join (ih h3) (by omega) (by omega) (fun _ => by omega) (fun _ => by omega) (by omega) (by rw [lz_26 (by omega)]; omega)
    rw [if_neg c1] at h
    by_cases c2 : c = 2
    · rw [if_pos c2] at h
      subst c2
      rcases h with h | ⟨m, h1, h2, h3⟩
      · exact (ih h).wk (by omega) (fun _ => by omega)
      · exact (ih h2).join (ih h3) (by omega) (by omega) (fun _ => by omega) (fun _ => by omega) (by omega) (by rw [lz_24 h1 (ih h2).1 (ih h2).2.2.2.1]; omega)
    rw [if_neg c2] at h
    by_cases c3 : c = 3
    · rw [if_pos c3] at h
      subst c3
      rcases h with h | ⟨m, h1, h2, h3⟩ | ⟨h1, h2⟩
      · exact (ih h).wk (by omega) (fun _ => by omega)
      · exact (ih h2).join (ih h3) (by omega) (by omega) (fun _ => by omega) (fun _ => by omega) (by omega) (by rw [lz_18 h1]; omega)
      · exact (ih h2).pre (by omega) (Or.inr h1) (fun _ => by omega) (fun _ => by omega)
    rw [if_neg c3] at h
    by_cases c4 : c = 4
    · rw [if_pos c4] at h
      subst c4
      rcases h with h | ⟨m, h1, h2, h3⟩
      · exact (ih h).wk (by omega) (fun _ => by omega)
      · exact (ih h2).join (ih h3) (by omega) (by omega) (fun _ => by omega) (fun _ => by omega) (by omega) (by rw [lz_29 h1]; omega)
    rw [if_neg c4] at h
    by_cases c5 : c = 5
    · rw [if_pos c5] at h
      subst c5
      rcases h with h | ⟨m, h1, h2, h3⟩
      · exact (ih h).wk (by omega) (fun _ => by omega)
      · exact (ih h2).join (ih h3) (by omega) (by omega) (fun _ => by omega) (fun _ => by omega) (by omega) (by rw [lz_30 h1]; omega)
    rw [if_neg c5] at h
    by_cases c6 : c = 6
    · rw [if_pos c6] at h
      subst c6
      rcases h with h | ⟨m, q, h1, h2, h3, h4, h5⟩
      · exact (ih h).wk (by omega) (fun _ => by omega)
      · exact (ih h3).ask (ih h4) (ih h5) h1 h2
    rw [if_neg c6] at h
    by_cases c7 : c = 7
    · rw [if_pos c7] at h
      subst c7
      rcases h with h | ⟨m, h1, h2, h3⟩
      · exact (ih h).wk (by omega) (fun _ => by omega)
      · exact (ih h2).join (ih h3) (by omega) (by omega) (fun _ => by omega) (fun _ => by omega) (by omega) (by rw [lz_35 h1]; omega)
    · rw [if_neg c7] at h
      exact h.elim
theorem Eo.pr {c i j : Nat} (h : Eo w c i j) : Pr w c i j := by
  obtain ⟨n, h⟩ := h
  exact ex_pr h
/-- how loose the m-th word is, where nothing is open -/
def ll (w : Nat → Int) (i m : Nat) : Nat := if dp w i m = 0 then lz w i (i + m) else 0
/-- the loosest of the first m words, and how loose -/
def bh (w : Nat → Int) (i : Nat) : Nat → Int × Nat
  | 0 => (-1, 0)
  | m + 1 => if (bh w i m).2 < ll w i m ∨ (0 < ll w i m ∧ ll w i m = (bh w i m).2 ∧ ll w i m < 6) then (((i + m : Nat) : Int), ll w i m) else bh w i m
theorem bh_s {i m : Nat} : bh w i (m + 1) = if (bh w i m).2 < ll w i m ∨ (0 < ll w i m ∧ ll w i m = (bh w i m).2 ∧ ll w i m < 6) then (((i + m : Nat) : Int), ll w i m) else bh w i m := rfl
theorem bh_le {i c : Nat} : ∀ m, (∀ k, k < m → ll w i k ≤ c) → (bh w i m).2 ≤ c
  | 0, _ => Nat.zero_le _
  | m + 1, h => by
    have a := bh_le m (fun k hk => h k (by omega))
    have b := h m (by omega)
    rw [bh_s]
    split
    · exact b
    · exact a
theorem bh_none {i : Nat} : ∀ m, (∀ k, k < m → ll w i k = 0) → bh w i m = (-1, 0)
  | 0, _ => rfl
  | m + 1, h => by
    have a := bh_none m (fun k hk => h k (by omega))
    have b := h m (by omega)
    rw [bh_s, b, a, if_neg (by show ¬ ((0 : Nat) < 0 ∨ _); omega)]
theorem bh_max {i a c : Nat} (hc : 0 < c) (h1 : ∀ k, k < a → ll w i k ≤ c) (h2 : ll w i a = c) : ∀ n, (∀ k, a < k → k < a + 1 + n → ll w i k ≤ c ∧ (c < 6 → ll w i k < c)) → (c = 6 → ∀ k, k < a → ll w i k ≤ 5) → bh w i (a + 1 + n) = (((i + a : Nat) : Int), c)
  | 0, _, h6 => by
    show bh w i (a + 1) = _
    have k := bh_le a h1
    rw [bh_s, h2]
    by_cases z : c = 6
    · have k5 := bh_le a (h6 z)
      rw [if_pos (Or.inl (by omega))]
    · rw [if_pos (by
        have := lz_le (w := w) (i := i) (k := i + a)
        have h6' : c ≤ 6 := by
          have : ll w i a ≤ 6 := by unfold ll; split <;> omega
          omega
        omega)]
  | n + 1, h, h6 => by
    have ihn := bh_max hc h1 h2 n (fun k k1 k2 => h k k1 (by omega)) h6
    have b := h (a + 1 + n) (by omega) (by omega)
    show bh w i (a + 1 + n + 1) = _
    rw [bh_s, ihn, if_neg]
    show ¬ (c < ll w i (a + 1 + n) ∨ (0 < ll w i (a + 1 + n) ∧ ll w i (a + 1 + n) = c ∧ ll w i (a + 1 + n) < 6))
    intro q
    have := b.1
    rcases q with q | ⟨q1, q2, q3⟩
    · omega
    · have := b.2 (by omega); omega
/-- where the reference splits -/
def lo (w : Nat → Int) (i j : Nat) : Int := if w i = 31 ∧ (bh w i (j - i)).2 < 4 then -1 else (bh w i (j - i)).1
theorem Lb.right {i a b c2 : Nat} (b1 : Bl w i a) (h2 : Lb w c2 (i + a + 1) b) (h36 : w (i + a) ≠ 36) (h37 : w (i + a) ≠ 37) (hno : ¬ opd (w (i + a))) (hf : fwd (w (i + a + 1))) : ∀ m, a < m → m < a + 1 + b → ll w i m ≤ c2 := by
  have d1 : dp w i (a + 1) = 0 := by rw [dp_s, if_neg h36, if_neg h37, b1.1]; omega
  have e : i + (a + 1) = i + a + 1 := by omega
  intro m h1 h3
  unfold ll
  by_cases q : dp w i m = 0
  · rw [if_pos q]
    by_cases x : m = a + 1
    · rw [x, e, lz_f hf (fun _ => by rw [show i + a + 1 - 1 = i + a by omega]; exact hno)]; omega
    · rw [show m = (a + 1) + (m - (a + 1)) by omega, dp_app, d1, e] at q
      have k := h2 (m - (a + 1)) (by omega) (by omega)
      rw [show i + a + 1 + (m - (a + 1)) = i + m by omega] at k
      rw [lz_c (i' := i + a + 1) (by omega) (by omega)]
      exact k
  · rw [if_neg q]; omega
theorem lb_ll {c i l m : Nat} (h : Lb w c i l) (hm : m < l) : ll w i m ≤ c := by
  unfold ll
  split
  · exact h m hm (by assumption)
  · omega
end LO
end
