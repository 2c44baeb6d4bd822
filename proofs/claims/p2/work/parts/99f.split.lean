section
/-! The reference: an expression is split into expressions. -/
section SP
variable {w : Nat → Int}
/-- a question; an operator; parentheses; a sign before; a leaf; a list -/
def spQ (w : Nat → Int) (i j : Nat) : Prop := (∃ m q : Nat, lo w i j = (m : Int) ∧ w m = 32 ∧ w q = 33 ∧ Eo w 5 i m ∧ Eo w 6 (m + 1) q ∧ Eo w 6 (q + 1) j)
  ∨ (∃ m : Nat, lo w i j = (m : Int) ∧ ((24 ≤ w m ∧ w m ≤ 30) ∨ (18 ≤ w m ∧ w m ≤ 23)) ∧ Eo w 6 i m ∧ Eo w 6 (m + 1) j)
  ∨ (lo w i j = -1 ∧ w i = 36 ∧ w (j - 1) = 37 ∧ Eo w 6 (i + 1) (j - 1))
  ∨ (lo w i j = -1 ∧ (w i = 25 ∨ w i = 31) ∧ Eo w 6 (i + 1) j)
  ∨ (lo w i j = -1 ∧ j = i + 1 ∧ (w i = 1 ∨ w i = 2 ∨ w i = 12 ∨ w i = 13))
  ∨ (lo w i j = -1 ∧ (w i = 14 ∨ w i = 15) ∧ w (i + 1) = 36 ∧ w (j - 1) = 37 ∧ Eo w 7 (i + 2) (j - 1))
theorem lo_op {c c1 c2 i m j : Nat} (h1 : Pr w c1 i m) (h2 : Pr w c2 (m + 1) j) (hc : 0 < c) (hc1 : c1 ≤ c) (hc2 : c2 ≤ c) (hc26 : c < 6 → c2 < c) (hc16 : c = 6 → c1 ≤ 5) (hop : (24 ≤ w m ∧ w m ≤ 32) ∨ (18 ≤ w m ∧ w m ≤ 23)) (hl : lz w i m = c) (hn : w i = 31 → 4 ≤ c) : lo w i j = (m : Int) := by
  obtain ⟨p1, p2, p3, p4, p5, p6, p7⟩ := h1
  obtain ⟨q1, q2, q3, q4, q5, q6, q7⟩ := h2
  have em : i + (m - i) = m := by omega
  have hb : bh w i (j - i) = ((m : Int), c) := by
    rw [show j - i = (m - i) + 1 + (j - (m + 1)) by omega]
    have hr := Lb.right (i := i) (a := m - i) (b := j - (m + 1)) (c2 := c2) p5 (by rw [em]; exact q7) (by rw [em]; omega) (by rw [em]; omega) (by rw [em]; unfold opd; omega) (by rw [em]; exact q2)
    have hm0 : ll w i (m - i) = c := by
      unfold ll
      rw [if_pos p5.1, em, hl]
    have k := bh_max (w := w) (i := i) (a := m - i) hc (fun k hk => by have := lb_ll p7 hk; omega) hm0 (j - (m + 1)) (fun k k1 k2 => by have := hr k k1 k2; exact ⟨by omega, fun z => by have := hc26 z; omega⟩) (fun z k hk => by have := lb_ll p7 hk; have := hc16 z; omega)
    rw [em] at k
    exact k
  unfold lo
  rw [hb, if_neg]
  show ¬ (w i = 31 ∧ c < 4)
  intro q
  have := hn q.1
  omega
theorem lo_none {i j : Nat} (h : Pr w 0 i j) : lo w i j = -1 := by
  have hb : bh w i (j - i) = (-1, 0) := bh_none _ (fun k hk => by have := lb_ll h.2.2.2.2.2.2 hk; omega)
  unfold lo
  rw [hb]
  split <;> rfl
theorem lo_not {i j : Nat} (h : Pr w 3 i j) (h31 : w i = 31) : lo w i j = -1 := by
  have hb := bh_le (w := w) (i := i) (c := 3) (j - i) (fun k hk => lb_ll h.2.2.2.2.2.2 hk)
  unfold lo
  rw [if_pos ⟨h31, by omega⟩]
theorem ex_sp : ∀ {n c i j : Nat}, c ≤ 6 → Ex w n c i j → spQ w i j := by
  intro n
  induction n with
  | zero => intro c i j _ h; exact h.elim
  | succ n ih =>
    intro c i j hc h
    have hp := ex_pr h
    rw [Ex] at h
    by_cases c0 : c = 0
    · rw [if_pos c0] at h
      subst c0
      have hlo := lo_none hp
      rcases h with ⟨h1, h2⟩ | ⟨h1, h2⟩ | ⟨h1, h2, h3⟩ | ⟨h1, h2, h3, h4⟩
      · exact Or.inr (Or.inr (Or.inr (Or.inr (Or.inl ⟨hlo, h1, h2⟩))))
      · exact Or.inr (Or.inr (Or.inr (Or.inl ⟨hlo, Or.inl h1, Eo.six (by omega) ⟨n, h2⟩⟩)))
      · exact Or.inr (Or.inr (Or.inl ⟨hlo, h1, h2, ⟨n, h3⟩⟩))
      · exact Or.inr (Or.inr (Or.inr (Or.inr (Or.inr ⟨hlo, h1, h2, h3, ⟨n, h4⟩⟩))))
    rw [if_neg c0] at h
    by_cases c1 : c = 1
    · rw [if_pos c1] at h
      subst c1
      rcases h with h | ⟨m, h1, h2, h3⟩
      · exact ih (by omega) h
      · exact Or.inr (Or.inl ⟨m, lo_op (c := 1) (ex_pr h2) (ex_pr h3) (by omega) (by omega) (by omega) (fun _ => by omega) (fun _ => by omega) (by omega) (lz_26 (by omega)) (fun q => absurd q ((ex_pr h2).2.2.1 (by omega))), by omega, Eo.six (by omega) ⟨n, h2⟩, Eo.six (by omega) ⟨n, h3⟩⟩)
    rw [if_neg c1] at h
    by_cases c2 : c = 2
    · rw [if_pos c2] at h
      subst c2
      rcases h with h | ⟨m, h1, h2, h3⟩
      · exact ih (by omega) h
      · exact Or.inr (Or.inl ⟨m, lo_op (c := 2) (ex_pr h2) (ex_pr h3) (by omega) (by omega) (by omega) (fun _ => by omega) (fun _ => by omega) (by omega) (lz_24 h1 (ex_pr h2).1 (ex_pr h2).2.2.2.1) (fun q => absurd q ((ex_pr h2).2.2.1 (by omega))), by omega, Eo.six (by omega) ⟨n, h2⟩, Eo.six (by omega) ⟨n, h3⟩⟩)
    rw [if_neg c2] at h
    by_cases c3 : c = 3
    · rw [if_pos c3] at h
      subst c3
      rcases h with h | ⟨m, h1, h2, h3⟩ | ⟨h1, h2⟩
      · exact ih (by omega) h
      · exact Or.inr (Or.inl ⟨m, lo_op (c := 3) (ex_pr h2) (ex_pr h3) (by omega) (by omega) (by omega) (fun _ => by omega) (fun _ => by omega) (by omega) (lz_18 h1) (fun q => absurd q ((ex_pr h2).2.2.1 (by omega))), by omega, Eo.six (by omega) ⟨n, h2⟩, Eo.six (by omega) ⟨n, h3⟩⟩)
      · exact Or.inr (Or.inr (Or.inr (Or.inl ⟨lo_not hp h1, Or.inr h1, Eo.six (by omega) ⟨n, h2⟩⟩)))
    rw [if_neg c3] at h
    by_cases c4 : c = 4
    · rw [if_pos c4] at h
      subst c4
      rcases h with h | ⟨m, h1, h2, h3⟩
      · exact ih (by omega) h
      · exact Or.inr (Or.inl ⟨m, lo_op (c := 4) (ex_pr h2) (ex_pr h3) (by omega) (by omega) (by omega) (fun _ => by omega) (fun _ => by omega) (by omega) (lz_29 h1) (fun _ => by omega), by omega, Eo.six (by omega) ⟨n, h2⟩, Eo.six (by omega) ⟨n, h3⟩⟩)
    rw [if_neg c4] at h
    by_cases c5 : c = 5
    · rw [if_pos c5] at h
      subst c5
      rcases h with h | ⟨m, h1, h2, h3⟩
      · exact ih (by omega) h
      · exact Or.inr (Or.inl ⟨m, lo_op (c := 5) (ex_pr h2) (ex_pr h3) (by omega) (by omega) (by omega) (fun _ => by omega) (fun _ => by omega) (by omega) (lz_30 h1) (fun _ => by omega), by omega, Eo.six (by omega) ⟨n, h2⟩, Eo.six (by omega) ⟨n, h3⟩⟩)
    rw [if_neg c5] at h
    by_cases c6 : c = 6
    · rw [if_pos c6] at h
      subst c6
      rcases h with h | ⟨m, q, h1, h2, h3, h4, h5⟩
      · exact ih (by omega) h
      · -- the right side of the question, up to the end
        have p5 := ex_pr h3
        have p6 := ex_pr h4
        have p7 := ex_pr h5
        have hq5 := p5.2.2.2.2.1
        have hlo : lo w i j = (m : Int) := by
          have em : i + (m - i) = m := by have := p5.1; omega
          have hb : bh w i (j - i) = ((m : Int), 6) := by
            have hm1 := p5.1
            have hq1 := p6.1
            have hj1 := p7.1
            rw [show j - i = (m - i) + 1 + (j - (m + 1)) by omega]
            have hm0 : ll w i (m - i) = 6 := by
              unfold ll
              rw [if_pos hq5.1, em, lz_32 h1]
            have k := bh_max (w := w) (i := i) (a := m - i) (c := 6) (by omega) (fun k hk => by have := lb_ll p5.2.2.2.2.2.2 hk; omega) hm0 (j - (m + 1)) (fun k k1 k2 => ⟨by unfold ll; have := lz_le (w := w) (i := i) (k := i + k); split <;> omega, fun z => by omega⟩) (fun z k hk => by have := lb_ll p5.2.2.2.2.2.2 hk; omega)
            rw [em] at k
            exact k
          unfold lo
          rw [hb, if_neg]
          show ¬ (w i = 31 ∧ 6 < 4)
          omega
        exact Or.inl ⟨m, q, hlo, h1, h2, ⟨n, h3⟩, ⟨n, h4⟩, ⟨n, h5⟩⟩
    · omega
theorem Eo.sp {i j : Nat} (h : Eo w 6 i j) : spQ w i j := by
  obtain ⟨n, h⟩ := h
  exact ex_sp (by omega) h
/-- a list: its last part, and what is before -/
theorem Eo.lst {i j : Nat} (h : Eo w 7 i j) : Eo w 6 i j ∨ ∃ m, w m = 35 ∧ Eo w 7 i m ∧ Eo w 6 (m + 1) j := by
  obtain ⟨n, h⟩ := h
  cases n with
  | zero => exact h.elim
  | succ n =>
    have h' : Ex w (n + 1) 7 i j := h
    rw [Ex] at h'
    have h'' : Ex w n 6 i j ∨ ∃ m, w m = 35 ∧ Ex w n 7 i m ∧ Ex w n 6 (m + 1) j := h'
    rcases h'' with h | ⟨m, h1, h2, h3⟩
    · exact Or.inl ⟨n, h⟩
    · exact Or.inr ⟨m, h1, ⟨n, h2⟩, ⟨n, h3⟩⟩
end SP
end
section
/-! The reference: its searches among the words. -/
section SR
variable {G : mG} {d a N : Nat} {M : mM}
/-- N words are there -/
def Wn (M : mM) (a N : Nat) : Prop := Wd M a ∧ ln M (a + 5) = N ∧ N ≤ 16385
abbrev wk (M : mM) (a : Nat) : Nat → Int := nt M (a + 5)
theorem n5 : a + 5 ∈ nums a := nums_o (by decide)
theorem s_MM_word1 {k : Nat} (hO : mOk M) (h : Wn M a N) (hk : k < N) : Ci G y_MM_word1 (d + 1) [vr a, vi k] M (fun x M' => M' = M ∧ x = wk M a k) := by
  obtain ⟨w, l, b⟩ := h
  refine k_MM_word1 hO (i32s (by omega) (by omega)) ?_
  rw [w.1.2.2.1.1]
  refine ⟨w.1.1, (w.nu n5).1, (s_MN_at hO (w.nu n5) (by omega)).mono (fun x M1 h1 => ?_)⟩
  obtain ⟨e1, hx⟩ := h1
  subst e1
  exact ⟨by rw [hx]; exact (hO _ _).1, hO, rfl, hx⟩
theorem wk32 (hO : mOk M) {k : Nat} : i32 (wk M a k) := (hO _ _).1
theorem s_MM_isOperand {k : Nat} (hO : mOk M) (h : Wn M a N) (hk : k < N) : Ci G y_MM_isOperand (d + 2) [vr a, vi k] M (fun x M' => M' = M ∧ (x = 0 ∨ x = 1) ∧ (x ≠ 0 ↔ opd (wk M a k))) := by
  have hK := h.1.1.1
  have one : ∀ x M', (M' = M ∧ x = wk M a k) → i32 x ∧ mOk M' := fun x M' q => by rw [q.1, q.2]; exact ⟨wk32 hO, hO⟩
  refine k_MM_isOperand hO (i32s (by have := h.2.2; omega) (by have := h.2.2; omega)) ⟨hK, (s_MM_word1 (d := d) hO h hk).mono (fun x M1 h1 => ?_)⟩
  obtain ⟨e1, hx⟩ := h1
  subst e1
  refine ⟨by rw [hx]; exact wk32 hO, hO, fun q => ⟨rfl, Or.inr rfl, ⟨fun _ => by unfold opd; omega, fun _ => by omega⟩⟩, fun q1 => ⟨hK, (s_MM_word1 (d := d) hO h hk).mono (fun x2 M2 h2 => ?_)⟩⟩
  obtain ⟨e2, hx2⟩ := h2
  subst e2
  refine ⟨by rw [hx2]; exact wk32 hO, hO, fun q => ⟨rfl, Or.inr rfl, ⟨fun _ => by unfold opd; omega, fun _ => by omega⟩⟩, fun q2 => ⟨hK, (s_MM_word1 (d := d) hO h hk).mono (fun x3 M3 h3 => ?_)⟩⟩
  obtain ⟨e3, hx3⟩ := h3
  subst e3
  refine ⟨by rw [hx3]; exact wk32 hO, hO, fun q => ⟨rfl, Or.inr rfl, ⟨fun _ => by unfold opd; omega, fun _ => by omega⟩⟩, fun q3 => ⟨hK, (s_MM_word1 (d := d) hO h hk).mono (fun x4 M4 h4 => ?_)⟩⟩
  obtain ⟨e4, hx4⟩ := h4
  subst e4
  refine ⟨by rw [hx4]; exact wk32 hO, hO, fun q => ⟨rfl, Or.inr rfl, ⟨fun _ => by unfold opd; omega, fun _ => by omega⟩⟩, fun q4 => ⟨hK, (s_MM_word1 (d := d) hO h hk).mono (fun x5 M5 h5 => ?_)⟩⟩
  obtain ⟨e5, hx5⟩ := h5
  subst e5
  refine ⟨by rw [hx5]; exact wk32 hO, hO, fun v hv => ⟨rfl, by split at hv <;> omega, ?_⟩⟩
  unfold opd
  split at hv <;> omega
theorem s_MM_looseness {k i : Nat} (hO : mOk M) (h : Wn M a N) (hk : k < N) (hi : i ≤ k) : Ci G y_MM_looseness (d + 3) [vr a, vi k, vi i] M (fun x M' => M' = M ∧ x = (lz (wk M a) i k : Int)) := by
  have hK := h.1.1.1
  have hN := h.2.2
  refine k_MM_looseness hO (i32s (by omega) (by omega)) (i32s (by omega) (by omega)) ⟨hK, (s_MM_word1 (d := d + 1) hO h hk).mono (fun x M1 h1 => ?_)⟩
  obtain ⟨e1, hx⟩ := h1
  subst e1
  unfold lz
  refine ⟨by rw [hx]; exact wk32 hO, hO, fun q => ⟨rfl, by rw [if_pos (by omega)]; rfl⟩, fun q1 => ⟨fun q v hv => ⟨rfl, ?_⟩, fun q2 => (s_MM_isComparison (by rw [hx]; exact wk32 hO) hO).mono (fun y M2 h2 => ?_)⟩⟩
  · rw [if_neg (by omega)]
    by_cases z : x = 30
    · rw [if_pos z] at hv
      rw [if_pos (by omega), hv]; rfl
    · rw [if_neg z] at hv
      rw [if_neg (by omega), if_pos (by omega), hv]; rfl
  · obtain ⟨e2, hy, hyq⟩ := h2
    subst e2
    rw [if_neg (show ¬ wk M2 a k = 32 by omega), if_neg (show ¬ wk M2 a k = 30 by omega), if_neg (show ¬ wk M2 a k = 29 by omega)]
    refine ⟨i32s (by omega) (by omega), hO, fun y0 => ?_, fun y0 => ⟨rfl, by rw [if_pos (by have := hyq.1 y0; omega)]; rfl⟩⟩
    rw [if_neg (show ¬ (18 ≤ wk M2 a k ∧ wk M2 a k ≤ 23) from fun z => absurd y0 (hyq.2 (by omega)))]
    refine ⟨fun q => ?_, fun q v hv => ⟨rfl, ?_⟩⟩
    · rw [if_pos (show wk M2 a k = 24 ∨ wk M2 a k = 25 by omega)]
      refine ⟨fun z => k_MM_looseness_80 hO (i32s (by omega) (by omega)) ⟨rfl, by rw [if_neg (fun u => by have := u.1; omega)]; rfl⟩, fun z => ⟨hK, ?_⟩⟩
      rw [show (k : Int) - 1 = ((k - 1 : Nat) : Int) by omega]
      refine (s_MM_isOperand (d := d) hO h (k := k - 1) (by omega)).mono (fun u M3 h3 => ?_)
      obtain ⟨e3, hu, huq⟩ := h3
      subst e3
      refine ⟨i32s (by omega) (by omega), hO, fun u0 => k_MM_looseness_80 hO (i32s (by omega) (by omega)) ⟨rfl, by rw [if_neg (fun v => huq.2 v.2 u0)]; rfl⟩, fun u0 => k_MM_looseness_80 hO (i32s (by omega) (by omega)) ⟨rfl, by rw [if_pos ⟨by omega, huq.1 u0⟩]; rfl⟩⟩
    · rw [if_neg (show ¬ (wk M2 a k = 24 ∨ wk M2 a k = 25) by omega)]
      by_cases z : x = 26 ∨ (x = 27 ∨ x = 28)
      · rw [if_pos z] at hv
        rw [if_pos (by omega), hv]; rfl
      · rw [if_neg z] at hv
        rw [if_neg (by omega), hv]; rfl
theorem dp_b {w : Nat → Int} {i : Nat} : ∀ m : Nat, -(m : Int) ≤ dp w i m ∧ dp w i m ≤ m
  | 0 => by show -((0 : Nat) : Int) ≤ 0 ∧ (0 : Int) ≤ ((0 : Nat) : Int); omega
  | m + 1 => by
    have := dp_b (w := w) (i := i) m
    rw [dp_s]
    split <;> (try split) <;> omega
theorem aq_b {w : Nat → Int} {i : Nat} : ∀ m : Nat, -(m : Int) ≤ aq w i m ∧ aq w i m ≤ m
  | 0 => by show -((0 : Nat) : Int) ≤ 0 ∧ (0 : Int) ≤ ((0 : Nat) : Int); omega
  | m + 1 => by
    have := aq_b (w := w) (i := i) m
    rw [aq_s]
    split <;> (try split) <;> (try split) <;> omega
theorem lz_37 {w : Nat → Int} {i m : Nat} (h : w m = 37) : lz w i m = 0 := by
  unfold lz
  rw [if_neg (by omega), if_neg (by omega), if_neg (by omega), if_neg (by omega), if_neg (by omega), if_neg (by omega)]
theorem bh_b {w : Nat → Int} {i : Nat} : ∀ m, -1 ≤ (bh w i m).1 ∧ (bh w i m).1 ≤ (i + m : Nat) ∧ (bh w i m).2 ≤ 6
  | 0 => ⟨by show (-1 : Int) ≤ -1; omega, by show (-1 : Int) ≤ _; omega, Nat.zero_le _⟩
  | m + 1 => by
    have k := bh_b (w := w) (i := i) m
    have l : ll w i m ≤ 6 := by unfold ll; have := lz_le (w := w) (i := i) (k := i + m); split <;> omega
    rw [bh_s]
    split
    · exact ⟨by show (-1 : Int) ≤ ((i + m : Nat) : Int); omega, by show ((i + m : Nat) : Int) ≤ _; omega, l⟩
    · exact ⟨k.1, by omega, k.2.2⟩
theorem s_MM_loosest {i j : Nat} (hO : mOk M) (h : Wn M a N) (hij : i < j) (hj : j ≤ N) : Ci G y_MM_loosest (d + 4) [vr a, vi i, vi j] M (fun x M' => M' = M ∧ x = lo (wk M a) i j) := by
  have hK := h.1.1.1
  have hN := h.2.2
  refine k_MM_loosest hO (i32s (by omega) (by omega)) (i32s (by omega) (by omega)) ?_
  suffices H : ∀ (c m : Nat), m + c = j - i → h_MM_loosest_11 G (d + 3) a i j (bh (wk M a) i m).1 (bh (wk M a) i m).2 (dp (wk M a) i m) (i + m : Nat) M (fun x M' => M' = M ∧ x = lo (wk M a) i j) from
    H (j - i) 0 (by omega)
  intro c
  induction c with
  | zero =>
    intro m hm
    have em : m = j - i := by omega
    have b := bh_b (w := wk M a) (i := i) m
    have db := dp_b (w := wk M a) (i := i) m
    refine k_MM_loosest_11 hO (i32s (by omega) (by omega)) (i32s (by omega) (by omega)) (i32s (by omega) (by omega)) (i32s (by omega) (by omega)) (i32s (by omega) (by omega)) (i32s (by omega) (by omega)) ⟨fun _ => ⟨hK, (s_MM_word1 (d := d + 2) hO h (by omega)).mono (fun x M1 h1 => ?_)⟩, fun q => by omega⟩
    obtain ⟨e1, hx⟩ := h1
    subst e1
    refine ⟨by rw [hx]; exact wk32 hO, hO, fun v hv => ⟨rfl, ?_⟩⟩
    unfold lo
    rw [← em]
    by_cases z : ¬ (x = 31) ∨ 4 ≤ ((bh (wk M1 a) i m).2 : Int)
    · rw [if_pos z] at hv
      rw [if_neg (by omega)]
      exact hv
    · rw [if_neg z] at hv
      rw [if_pos (by omega)]
      exact hv
  | succ c ih =>
    intro m hm
    have nx := ih (m + 1) (by omega)
    have b := bh_b (w := wk M a) (i := i) m
    have db := dp_b (w := wk M a) (i := i) m
    have hl : ll (wk M a) i m ≤ 6 := by unfold ll; have := lz_le (w := wk M a) (i := i) (k := i + m); split <;> omega
    refine k_MM_loosest_11 hO (i32s (by omega) (by omega)) (i32s (by omega) (by omega)) (i32s (by omega) (by omega)) (i32s (by omega) (by omega)) (i32s (by omega) (by omega)) (i32s (by omega) (by omega)) ⟨fun q => by omega, fun _ => ⟨hK, (s_MM_word1 (d := d + 2) hO h (by omega)).mono (fun x M1 h1 => ?_)⟩⟩
    obtain ⟨e1, hx⟩ := h1
    subst e1
    refine ⟨by rw [hx]; exact wk32 hO, hO, fun v hv => ?_⟩
    have h55 : ∀ k0 : Int, k0 = (ll (wk M1 a) i m : Int) → h_MM_loosest_55 G (d + 3) a i j (bh (wk M1 a) i m).1 (bh (wk M1 a) i m).2 v (i + m : Nat) k0 M1 (fun x M' => M' = M1 ∧ x = lo (wk M1 a) i j) := fun k0 hk0 => by
      refine k_MM_loosest_55 hO (i32s (by omega) (by omega)) (i32s (by omega) (by omega)) (i32s (by omega) (by omega)) (i32s (by omega) (by omega)) (i32s (by split at hv <;> omega) (by split at hv <;> omega)) (i32s (by omega) (by omega)) (i32s (by omega) (by omega)) (fun u hu t ht => ⟨hK, (s_MM_word1 (d := d + 2) hO h (by omega)).mono (fun y M2 h2 => ?_)⟩)
      obtain ⟨e2, hy⟩ := h2
      subst e2
      refine ⟨by rw [hy]; exact wk32 hO, hO, fun r hr => ?_⟩
      have hu' : u = (bh (wk M2 a) i (m + 1)).1 ∧ t = ((bh (wk M2 a) i (m + 1)).2 : Int) := by
        rw [bh_s]
        by_cases z : (bh (wk M2 a) i m).2 < ll (wk M2 a) i m ∨ (0 < ll (wk M2 a) i m ∧ ll (wk M2 a) i m = (bh (wk M2 a) i m).2 ∧ ll (wk M2 a) i m < 6)
        · rw [if_pos z]
          rw [if_pos (by omega)] at hu ht
          exact ⟨hu, by rw [ht, hk0]⟩
        · rw [if_neg z]
          rw [if_neg (by omega)] at hu ht
          exact ⟨hu, ht⟩
      have hr' : r = dp (wk M2 a) i (m + 1) := by
        rw [dp_s, ← hy]
        have hxy : y = x := hy.trans hx.symm
        split at hr <;> split at hv <;> (try split) <;> (try split) <;> omega
      rw [hu'.1, hu'.2, hr']
      have := nx
      rw [show (((i + (m + 1) : Nat)) : Int) = ((i + m : Nat) : Int) + 1 by omega] at this
      exact this
    refine ⟨i32s (by split at hv <;> omega) (by split at hv <;> omega), fun v0 => ⟨hK, (s_MM_looseness (d := d) hO h (by omega) (by omega)).mono (fun y M2 h2 => ?_)⟩, fun v0 => h55 0 ?_⟩
    · obtain ⟨e2, hy⟩ := h2
      subst e2
      have hyb := lz_le (w := wk M2 a) (i := i) (k := i + m)
      refine ⟨i32s (by omega) (by omega), hO, h55 y ?_⟩
      unfold ll
      by_cases z : dp (wk M2 a) i m = 0
      · rw [if_pos z]; exact hy
      · rw [if_neg z, hy, lz_37 (by split at hv <;> omega)]
    · unfold ll
      by_cases z : dp (wk M1 a) i m = 0
      · rw [if_pos z, lz_37 (by split at hv <;> omega)]; rfl
      · rw [if_neg z]; rfl
theorem s_MM_colonOf {m q l : Nat} (hO : mOk M) (h : Wn M a N) (hm : m < q) (hq : q < N) (hl : l ≤ 20000) (hb : Bl (wk M a) (m + 1) (q - (m + 1))) (h33 : wk M a q = 33) : Ci G y_MM_colonOf (d + 2) [vr a, vi m, vi l] M (fun x M' => M' = M ∧ x = q) := by
  have hK := h.1.1.1
  have hN := h.2.2
  refine k_MM_colonOf hO (i32s (by omega) (by omega)) (i32s (by omega) (by omega)) ?_
  suffices H : ∀ (c t : Nat), t + c = q - (m + 1) → h_MM_colonOf_11 G (d + 1) a (aq (wk M a) (m + 1) t) (dp (wk M a) (m + 1) t) (m + t : Nat) 0 M (fun x M' => M' = M ∧ x = q) from
    H (q - (m + 1)) 0 (by omega)
  intro c
  induction c with
  | zero =>
    intro t ht
    have d0 : dp (wk M a) (m + 1) t = 0 := by rw [show t = q - (m + 1) by omega]; exact hb.1
    have a0 : aq (wk M a) (m + 1) t = 0 := by rw [show t = q - (m + 1) by omega]; exact hb.2.1
    rw [d0, a0]
    refine k_MM_colonOf_11 hO (i32s (by omega) (by omega)) (i32s (by omega) (by omega)) (i32s (by omega) (by omega)) (i32s (by omega) (by omega)) ⟨fun _ => ⟨hK, ?_⟩, fun z => absurd rfl z⟩
    rw [show ((m + t : Nat) : Int) + 1 = ((q : Nat) : Int) by omega]
    refine (s_MM_word1 (d := d) hO h hq).mono (fun x M1 h1 => ?_)
    obtain ⟨e1, hx⟩ := h1
    subst e1
    rw [h33] at hx
    refine ⟨i32s (by omega) (by omega), hO, fun v hv => ?_⟩
    rw [if_neg (by omega), if_neg (by omega)] at hv
    refine ⟨fun _ => i32s (by omega) (by omega), fun u hu => ⟨i32s (by omega) (by omega), fun s hs => ?_⟩⟩
    rw [if_pos ⟨hx, hv, rfl⟩] at hu
    subst hu hv
    rw [if_pos (by omega), if_neg (by omega), if_pos hx] at hs
    exact k_MM_colonOf_11 hO (i32s (by omega) (by omega)) (i32s (by omega) (by omega)) (i32s (by omega) (by omega)) (i32s (by omega) (by omega)) ⟨fun z => by omega, fun _ => ⟨rfl, rfl⟩⟩
  | succ c ih =>
    intro t ht
    have nx := ih (t + 1) (by omega)
    have db := dp_b (w := wk M a) (i := m + 1) t
    have ab := aq_b (w := wk M a) (i := m + 1) t
    have bp := hb.2.2.1 t (by omega)
    have bw := (hb.2.2.2 t (by omega)).2
    refine k_MM_colonOf_11 hO (i32s (by omega) (by omega)) (i32s (by omega) (by omega)) (i32s (by omega) (by omega)) (i32s (by omega) (by omega)) ⟨fun _ => ⟨hK, ?_⟩, fun z => absurd rfl z⟩
    rw [show ((m + t : Nat) : Int) + 1 = ((m + 1 + t : Nat) : Int) by omega]
    refine (s_MM_word1 (d := d) hO h (by omega)).mono (fun x M1 h1 => ?_)
    obtain ⟨e1, hx⟩ := h1
    subst e1
    refine ⟨by rw [hx]; exact wk32 hO, hO, fun v hv => ?_⟩
    have hv' : v = dp (wk M1 a) (m + 1) (t + 1) := by
      rw [dp_s, ← hx]
      split at hv <;> (try split at hv) <;> (try split) <;> (try split) <;> omega
    have db1 := dp_b (w := wk M1 a) (i := m + 1) (t + 1)
    refine ⟨fun _ => i32s (by omega) (by omega), fun u hu => ⟨i32s (by omega) (by omega), fun s hs => ?_⟩⟩
    have hu0 : u = 0 := by
      by_cases z : x = 33 ∧ (v = 0 ∧ aq (wk M1 a) (m + 1) t = 0)
      · exfalso
        obtain ⟨z1, z2, z3⟩ := z
        rw [if_neg (by omega), if_neg (by omega)] at hv
        exact bw (by omega) z3 (by rw [← hx]; exact z1)
      · rw [if_neg z] at hu; exact hu
    have hs' : s = aq (wk M1 a) (m + 1) (t + 1) := by
      rw [aq_s, ← hx]
      by_cases z1 : x = 36
      · rw [if_pos z1] at hv
        rw [if_neg (by omega)] at hs
        rw [hs]
        split
        · rfl
        · rw [if_neg (by omega), if_neg (by omega)]; omega
      · rw [if_neg z1] at hv
        by_cases z2 : x = 37
        · rw [if_pos z2] at hv
          have e : s = aq (wk M1 a) (m + 1) t := by split at hs <;> (try split at hs) <;> (try split at hs) <;> omega
          rw [e]
          split
          · rfl
          · rw [if_neg (by omega), if_neg (by omega)]; omega
        · rw [if_neg z2] at hv
          by_cases z3 : 0 < dp (wk M1 a) (m + 1) t
          · rw [if_pos z3]
            rw [if_neg (by omega)] at hs
            exact hs
          · rw [if_neg z3]
            rw [if_pos (by omega)] at hs
            rw [hs]
            split <;> (try split) <;> omega
    rw [hu0, hv', hs']
    rw [show ((m + 1 + t : Nat) : Int) = ((m + (t + 1) : Nat) : Int) by omega]
    exact nx
end SR
end
section
/-! The reference: searches on, numbers, and a new node. -/
section NO
variable {G : mG} {d a N : Nat} {M : mM}
theorem s_MM_until {i j : Nat} {s : Int} (hs : i32 s) (hO : mOk M) (h : Wn M a N) (hij : i ≤ j) (hj : j < N) (h1 : wk M a j = s) (h2 : dp (wk M a) i (j - i) ≤ 0) (h3 : aq (wk M a) i (j - i) ≤ 0) (h4 : ∀ t, t < j - i → ¬ (wk M a (i + t) = s ∧ dp (wk M a) i t ≤ 0 ∧ aq (wk M a) i t ≤ 0)) : Ci G y_MM_until (d + 2) [vr a, vi i, vi s] M (fun x M' => M' = M ∧ x = j) := by
  have hK := h.1.1.1
  have hN := h.2.2
  refine k_MM_until hO (i32s (by omega) (by omega)) hs ?_
  suffices H : ∀ (c t : Nat), t + c = j - i → h_MM_until_8 G (d + 1) a s (dp (wk M a) i t) (aq (wk M a) i t) (i + t : Nat) M (fun x M' => M' = M ∧ x = j) from
    H (j - i) 0 (by omega)
  intro c
  induction c with
  | zero =>
    intro t ht
    have et : t = j - i := by omega
    subst et
    have db := dp_b (w := wk M a) (i := i) (j - i)
    have ab := aq_b (w := wk M a) (i := i) (j - i)
    rw [show i + (j - i) = j by omega]
    refine k_MM_until_8 hO hs (i32s (by omega) (by omega)) (i32s (by omega) (by omega)) (i32s (by omega) (by omega)) ⟨hK, (s_MM_word1 (d := d) hO h hj).mono (fun x M1 e1 => ?_)⟩
    obtain ⟨e1, hx⟩ := e1
    subst e1
    exact ⟨by rw [hx]; exact wk32 hO, hO, fun q => by omega, fun _ => ⟨rfl, rfl⟩⟩
  | succ c ih =>
    intro t ht
    have nx := ih (t + 1) (by omega)
    have db := dp_b (w := wk M a) (i := i) t
    have ab := aq_b (w := wk M a) (i := i) t
    have h4t := h4 t (by omega)
    refine k_MM_until_8 hO hs (i32s (by omega) (by omega)) (i32s (by omega) (by omega)) (i32s (by omega) (by omega)) ⟨hK, (s_MM_word1 (d := d) hO h (by omega)).mono (fun x M1 e1 => ?_)⟩
    obtain ⟨e1, hx⟩ := e1
    subst e1
    refine ⟨by rw [hx]; exact wk32 hO, hO, fun _ => ⟨hK, (s_MM_word1 (d := d) hO h (by omega)).mono (fun y M2 e2 => ?_)⟩, fun q => absurd ⟨by omega, by omega, by omega⟩ h4t⟩
    obtain ⟨e2, hy⟩ := e2
    subst e2
    refine ⟨by rw [hy]; exact wk32 hO, hO, fun v hv => ?_⟩
    have hv' : v = dp (wk M2 a) i (t + 1) := by
      rw [dp_s, ← hy]
      split at hv <;> (try split at hv) <;> (try split) <;> (try split) <;> omega
    have db1 := dp_b (w := wk M2 a) (i := i) (t + 1)
    refine ⟨i32s (by omega) (by omega), fun s' hs' => ?_⟩
    have hs2 : s' = aq (wk M2 a) i (t + 1) := by
      rw [aq_s, ← hy]
      by_cases z1 : y = 36
      · rw [if_pos z1] at hv
        have e : s' = aq (wk M2 a) i t := by split at hs' <;> (try split at hs') <;> (try split at hs') <;> omega
        rw [e]
        split
        · rfl
        · rw [if_neg (by omega), if_neg (by omega)]; omega
      · rw [if_neg z1] at hv
        by_cases z2 : y = 37
        · rw [if_pos z2] at hv
          have e : s' = aq (wk M2 a) i t := by split at hs' <;> (try split at hs') <;> (try split at hs') <;> omega
          rw [e]
          split
          · rfl
          · rw [if_neg (by omega), if_neg (by omega)]; omega
        · rw [if_neg z2] at hv
          by_cases z3 : 0 < dp (wk M2 a) i t
          · rw [if_pos z3]
            rw [if_neg (by omega)] at hs'
            exact hs'
          · rw [if_neg z3]
            rw [if_pos (by omega)] at hs'
            rw [hs']
            split <;> (try split) <;> omega
    rw [hv', hs2, show ((i + t : Nat) : Int) + 1 = ((i + (t + 1) : Nat) : Int) by omega]
    exact nx
theorem s_MM_closeOf {k e : Nat} (hO : mOk M) (h : Wn M a N) (hk : k < e) (he : e < N) (h1 : ∀ t, 1 ≤ t → t ≤ e - k → 0 < dp (wk M a) k t) (h2 : dp (wk M a) k (e - k + 1) ≤ 0) : Ci G y_MM_closeOf (d + 2) [vr a, vi k] M (fun x M' => M' = M ∧ x = e) := by
  have hK := h.1.1.1
  have hN := h.2.2
  refine k_MM_closeOf hO (i32s (by omega) (by omega)) ?_
  suffices H : ∀ (c t : Nat), t + c = e - k → h_MM_closeOf_4 G (d + 1) a (dp (wk M a) k t) (k + t : Nat) M (fun x M' => M' = M ∧ x = e) from
    H (e - k) 0 (by omega)
  intro c
  induction c with
  | zero =>
    intro t ht
    have et : t = e - k := by omega
    subst et
    have db := dp_b (w := wk M a) (i := k) (e - k)
    have hp := h1 (e - k) (by omega) (by omega)
    rw [dp_s, show k + (e - k) = e by omega] at h2
    rw [show k + (e - k) = e by omega]
    refine k_MM_closeOf_4 hO (i32s (by omega) (by omega)) (i32s (by omega) (by omega)) ⟨hK, (s_MM_word1 (d := d) hO h he).mono (fun x M1 e1 => ?_)⟩
    obtain ⟨e1, hx⟩ := e1
    subst e1
    refine ⟨by rw [hx]; exact wk32 hO, hO, fun q => ?_, fun q => ⟨hK, (s_MM_word1 (d := d) hO h he).mono (fun y M2 e2 => ?_)⟩⟩
    · rw [if_pos (by omega)] at h2
      omega
    · obtain ⟨e2, hy⟩ := e2
      subst e2
      rw [if_neg (by omega)] at h2
      refine ⟨by rw [hy]; exact wk32 hO, hO, fun v hv => ⟨i32s (by split at hv <;> omega) (by split at hv <;> omega), fun z => ?_, fun z => ⟨rfl, by omega⟩⟩⟩
      split at hv <;> split at h2 <;> omega
  | succ c ih =>
    intro t ht
    have nx := ih (t + 1) (by omega)
    have db := dp_b (w := wk M a) (i := k) t
    have hp := h1 (t + 1) (by omega) (by omega)
    rw [show ((k + (t + 1) : Nat) : Int) = ((k + t : Nat) : Int) + 1 by omega] at nx
    have hd : dp (wk M a) k (t + 1) = dp (wk M a) k t + (if wk M a (k + t) = 36 then 1 else if wk M a (k + t) = 37 then -1 else 0) := dp_s
    refine k_MM_closeOf_4 hO (i32s (by omega) (by omega)) (i32s (by omega) (by omega)) ⟨hK, (s_MM_word1 (d := d) hO h (by omega)).mono (fun x M1 e1 => ?_)⟩
    obtain ⟨e1, hx⟩ := e1
    subst e1
    refine ⟨by rw [hx]; exact wk32 hO, hO, fun q => ?_, fun q => ⟨hK, (s_MM_word1 (d := d) hO h (by omega)).mono (fun y M2 e2 => ?_)⟩⟩
    · rw [if_pos (by omega)] at hd
      rw [hd] at nx hp
      exact ⟨i32s (by omega) (by omega), fun _ => nx, fun z => by omega⟩
    · obtain ⟨e2, hy⟩ := e2
      subst e2
      rw [if_neg (by omega)] at hd
      refine ⟨by rw [hy]; exact wk32 hO, hO, fun v hv => ?_⟩
      have hv' : v = dp (wk M2 a) k (t + 1) := by rw [hd]; split at hv <;> split <;> omega
      rw [hv']
      have db1 := dp_b (w := wk M2 a) (i := k) (t + 1)
      exact ⟨i32s (by omega) (by omega), fun _ => nx, fun z => by omega⟩
theorem n7 : a + 7 ∈ nums a := nums_o (by decide)
theorem n9 : a + 9 ∈ nums a := nums_o (by decide)
/-- N whole words are there -/
def Wx (M : mM) (a N : Nat) : Prop := Wn M a N ∧ ln M (a + 7) = N ∧ ln M (a + 9) = N ∧ (∀ k, k < N → wok M a (nt M (a + 5) k) (nt M (a + 7) k) (nt M (a + 9) k)) ∧ ln M (mR M a 2) ≤ 16384
theorem s_MM_place0 {k : Nat} (hO : mOk M) (h : Wx M a N) (hk : k < N) : Ci G y_MM_place0 (d + 1) [vr a, vi k] M (fun x M' => M' = M ∧ x = nt M (a + 7) k) := by
  obtain ⟨⟨w, l, b⟩, l7, l9, wo, -⟩ := h
  refine k_MM_place0 hO (i32s (by omega) (by omega)) ?_
  rw [w.1.2.2.1.2.1]
  refine ⟨w.1.1, (w.nu n7).1, (s_MN_at hO (w.nu n7) (by omega)).mono (fun x M1 h1 => ?_)⟩
  obtain ⟨e1, hx⟩ := h1
  subst e1
  exact ⟨by rw [hx]; exact (hO _ _).1, hO, rfl, hx⟩
theorem ten_pow_le {n m : Nat} (h : n ≤ m) : (10 : Int) ^ n ≤ 10 ^ m := by
  obtain ⟨c, rfl⟩ := Nat.le.dest h
  rw [Int.pow_add]
  have h1 : (0 : Int) < 10 ^ n := Int.pow_pos (by omega)
  have h2 : (0 : Int) < 10 ^ c := Int.pow_pos (by omega)
  have := Int.mul_le_mul_of_nonneg_left (a := 1) (b := 10 ^ c) (c := 10 ^ n) (by omega) (by omega)
  omega
end NO
end
section
/-! The reference: nodes of trees. -/
section ND
variable {G : mG} {d a N : Nat} {M M1 : mM}
theorem Wd.gp (h : Wd M a) {g : Nat} (hg : g = a + 13 ∨ g = a + 49) : Gp M g := by
  have k := h.1.2.2.2.2.2.2.2.2.2.2
  rcases hg with w | w <;> rw [w]
  · exact k.1
  · exact k.2
/-- the lists of a game that hold its trees -/
abbrev tL (g : Nat) : Nat → Prop := fun x => x = g + 1 ∨ x = g + 3 ∨ x = g + 5 ∨ x = g + 7 ∨ x = g + 9 ∨ x = g + 11
theorem tL_in {g q : Nat} (hg : g = a + 13 ∨ g = a + 49) (h : tL g q) : q ∈ nums a := by
  rcases hg with w | w <;> subst w <;> rcases h with h | h | h | h | h | h <;> subst h
  · exact nums_o (a := a) (o := 14) (by decide)
  · exact nums_o (a := a) (o := 16) (by decide)
  · exact nums_o (a := a) (o := 18) (by decide)
  · exact nums_o (a := a) (o := 20) (by decide)
  · exact nums_o (a := a) (o := 22) (by decide)
  · exact nums_o (a := a) (o := 24) (by decide)
  · exact nums_o (a := a) (o := 50) (by decide)
  · exact nums_o (a := a) (o := 52) (by decide)
  · exact nums_o (a := a) (o := 54) (by decide)
  · exact nums_o (a := a) (o := 56) (by decide)
  · exact nums_o (a := a) (o := 58) (by decide)
  · exact nums_o (a := a) (o := 60) (by decide)
/-- one number of a list is written anew -/
theorem mv_el {p j : Nat} {v : Int} (hv : i32 v) (hO : mOk M) (h : Wd M a) (hp : p ∈ nums a) (e : M1 = mUI M (mR M p 0) j v) : Mv (fun x => x = p) (fun _ => False) M a M1 ∧ ln M1 p = ln M p ∧ (∀ k, nt M1 p k = if k = j then v else nt M p k) ∧ cp M1 p = cp M p := by
  have hN := h.nu hp
  obtain ⟨n1, n2, n3, n4, n5⟩ := hN
  have f : FI (fun x => x = mR M p 0) M M1 := by rw [e]; exact FI.ui rfl
  have o1 : mOk M1 := by rw [e]; exact mOk_UI hO hv
  have er : mR M1 p = mR M p := by rw [f.2.2.1]
  have hne : p ≠ mR M p 0 := fun w => by rw [← w, n1] at n2; omega
  have ip : mI M1 p = mI M p := f.2.2.2.2.2.2 p hne
  have ec : cp M1 p = cp M p := by unfold cp; rw [er, f.2.1]
  have hN1 : Nu M1 p := ⟨by rw [f.1]; exact n1, by rw [er, f.1]; exact n2, by rw [er, f.2.2.2.2.1]; exact n3, by rw [ip, ec]; exact n4, by rw [ec]; exact n5⟩
  have fn : FN (fun x => x = p) (fun _ => False) M M1 := by
    refine ⟨⟨by rw [f.2.2.2.2.1]; exact Nat.le_refl _, fun q w => by rw [w]; exact n3.1⟩, fun x _ => ⟨by rw [f.1], by rw [f.2.1]⟩, fun x _ _ => by rw [f.2.2.1], fun x _ _ w _ => ⟨f.2.2.2.2.2.2 x (fun z => w p rfl z), by rw [f.2.2.2.1]⟩, fun q w => Or.inl (by rw [f.2.2.1])⟩
  have k := h.one hp fn hN1 (by rw [ec]; exact h.bd hp) (fun q hq hne => ⟨fun w => w, fun w => w⟩)
  refine ⟨⟨o1, k.1, RmL.fi f, fn, fun q hq hne => k.2 q hq hne⟩, by unfold ln; rw [ip], fun i => ?_, ec⟩
  unfold nt
  rw [er, e, mI_UI]
  by_cases z : i = j
  · rw [if_pos ⟨rfl, z⟩, if_pos z]
  · rw [if_neg (fun w => z w.2), if_neg z]
/-- T nodes -/
def nd (M : mM) (g T : Nat) : Prop := ∀ q, tL g q → ln M q = T
abbrev so (M : mM) (g : Nat) : Nat → Int := nt M (g + 1)
abbrev va (M : mM) (g : Nat) : Nat → Int := nt M (g + 7)
abbrev fp (M : mM) (g : Nat) : Nat → Int := nt M (g + 9)
abbrev np (M : mM) (g : Nat) : Nat → Int := nt M (g + 11)
theorem Mv.lst {P S : Nat → Prop} (h : Mv P S M a M1) {q : Nat} (hq : q ∈ nums a) (hp : ¬ P q) : sameN M M1 q := h.2.2.2.2 q hq hp
theorem Wx.mv {P S : Nat → Prop} (h : Wx M a N) (m : Mv P S M a M1) (hP : ∀ q, P q → q ∈ nums a) (h5 : ¬ P (a + 5)) (h7 : ¬ P (a + 7)) (h9 : ¬ P (a + 9)) (ht : ¬ P (mR M a 2)) : Wx M1 a N := by
  obtain ⟨⟨w, l, b⟩, l7, l9, wo, hT⟩ := h
  have s5 := m.lst n5 h5
  have s7 := m.lst n7 h7
  have s9 := m.lst n9 h9
  have st := m.lst w.tape.2.1 ht
  have r := m.rfl_a w hP
  refine ⟨⟨m.2.1, by rw [s5.1]; exact l, b⟩, by rw [s7.1]; exact l7, by rw [s9.1]; exact l9, fun k hk => ?_, by rw [r, st.1]; exact hT⟩
  rw [s5.2.1, s7.2.1, s9.2.1]
  exact (wo k hk).same r st
theorem tL_no {g : Nat} (hg : g = a + 13 ∨ g = a + 49) (h : Wd M a) : ¬ tL g (a + 5) ∧ ¬ tL g (a + 7) ∧ ¬ tL g (a + 9) ∧ ¬ tL g (mR M a 2) ∧ ¬ tL g (a + 91) := by
  have h1 := h.1.2.1
  refine ⟨by omega, by omega, by omega, ?_, by omega⟩
  rcases h1 with w | w <;> rw [w.2] <;> omega
end ND
end
section
/-! The reference: jobs, and joining a part to its parent. -/
section JO
variable {G : mG} {d a N g T : Nat} {M M2 : mM}
theorem n91 : a + 91 ∈ nums a := nums_o (by decide)
/-- the lists that tree changes -/
abbrev trP (a g : Nat) : Nat → Prop := fun x => tL g x ∨ x = a + 91
theorem trP_in {q : Nat} (hg : g = a + 13 ∨ g = a + 49) (h : trP a g q) : q ∈ nums a := by
  rcases h with h | h
  · exact tL_in hg h
  · rw [h]; exact n91
theorem trP_lt {M3 : mM} (hg : g = a + 13 ∨ g = a + 49) (w : Wd M3 a) : ∀ q, trP a g q → q < mZ M3 := fun q hq => w.lt (trP_in hg hq)
/-- while a tree is made: T nodes, jobs st -/
def TI (M : mM) (a g N T : Nat) (st : List Int) (M2 : mM) : Prop := Mv (trP a g) (fun _ => False) M a M2 ∧ Wx M2 a N ∧ mR M2 a 10 = g ∧ nd M2 g T ∧ St M2 (a + 91) st ∧ (g = a + 13 ∨ g = a + 49)
theorem TI.wx {st : List Int} {M3 : mM} {P : Nat → Prop} (h : TI M a g N T st M2) (m : Mv P (fun _ => False) M2 a M3) (hP : ∀ q, P q → trP a g q) : Mv (trP a g) (fun _ => False) M a M3 ∧ Wx M3 a N ∧ mR M3 a 10 = g := by
  obtain ⟨h1, h2, h3, h4, h5, hg⟩ := h
  have w := h2.1.1
  have no := tL_no hg w
  have hin : ∀ q, P q → q ∈ nums a := fun q hq => trP_in hg (hP q hq)
  refine ⟨h1.trans (m.mono hP (fun x hx => hx) (trP_lt hg w)), h2.mv m hin (fun q => ?_) (fun q => ?_) (fun q => ?_) (fun q => ?_), by rw [m.rfl_a w hin]; exact h3⟩
  · rcases hP _ q with z | z
    · exact no.1 z
    · omega
  · rcases hP _ q with z | z
    · exact no.2.1 z
    · omega
  · rcases hP _ q with z | z
    · exact no.2.2.1 z
    · omega
  · rcases hP _ q with z | z
    · exact no.2.2.2.1 z
    · rcases w.1.2.1 with y | y <;> rw [y.2] at z <;> omega
/-- from x on, the last brother is l -/
def Lk (M : mM) (g T : Nat) : Nat → Nat → Nat → Prop
  | 0, _, _ => False
  | f + 1, x, l => x < T ∧ ((x = l ∧ np M g x = -1) ∨ ∃ y : Nat, np M g x = y ∧ Lk M g T f y l)
theorem Lk.lt {f x l : Nat} (h : Lk M g T f x l) : l < T := by
  induction f generalizing x with
  | zero => exact h.elim
  | succ f ih =>
    obtain ⟨h1, h2⟩ := h
    rcases h2 with ⟨h2, -⟩ | ⟨y, -, h3⟩
    · omega
    · exact ih h3
/-- x has become a part of p -/
def jnQ (M2 : mM) (g T : Nat) (p : Int) (x : Nat) (M3 : mM) : Prop := (∀ n, so M3 g n = so M2 g n ∧ va M3 g n = va M2 g n) ∧ ((p < 0 ∧ ∀ n, fp M3 g n = fp M2 g n ∧ np M3 g n = np M2 g n) ∨ (0 ≤ p ∧ fp M2 g p.toNat = -1 ∧ (∀ n, fp M3 g n = if n = p.toNat then (x : Int) else fp M2 g n) ∧ ∀ n, np M3 g n = np M2 g n) ∨ (0 ≤ p ∧ ∃ f c l : Nat, fp M2 g p.toNat = c ∧ Lk M2 g T f c l ∧ (∀ n, fp M3 g n = fp M2 g n) ∧ ∀ n, np M3 g n = if n = l then (x : Int) else np M2 g n))
end JO
end
section
/-! The reference: the parts of a list. -/
section LI
variable {w : Nat → Int}
/-- x stands nowhere outside parentheses -/
def Nx (w : Nat → Int) (x : Int) (i l : Nat) : Prop := ∀ m, m < l → dp w i m = 0 → w (i + m) ≠ x
theorem Nx.join {x : Int} {i a b : Nat} (b1 : dp w i a = 0) (h1 : Nx w x i a) (h2 : Nx w x (i + a + 1) b) (h36 : w (i + a) ≠ 36) (h37 : w (i + a) ≠ 37) (hx : w (i + a) ≠ x) : Nx w x i (a + 1 + b) := by
  have d1 : dp w i (a + 1) = 0 := by rw [dp_s, if_neg h36, if_neg h37, b1]; omega
  have e : i + (a + 1) = i + a + 1 := by omega
  intro m hm q
  by_cases z : m < a
  · exact h1 m z q
  · by_cases y : m = a
    · rw [y]; exact hx
    · have k := h2 (m - (a + 1)) (by omega)
      rw [show i + a + 1 + (m - (a + 1)) = i + m by omega] at k
      refine k ?_
      rw [show m = (a + 1) + (m - (a + 1)) by omega, dp_app, d1, e] at q
      omega
theorem Nx.mid {x : Int} {i m j : Nat} (b1 : Bl w i (m - i)) (hm : i < m) (hj : m + 1 < j) (h1 : Nx w x i (m - i)) (h2 : Nx w x (m + 1) (j - (m + 1))) (h36 : w m ≠ 36) (h37 : w m ≠ 37) (hx : w m ≠ x) : Nx w x i (j - i) := by
  have em : i + (m - i) = m := by omega
  rw [show j - i = (m - i) + 1 + (j - (m + 1)) by omega]
  exact Nx.join b1.1 h1 (by rw [em]; exact h2) (by rw [em]; exact h36) (by rw [em]; exact h37) (by rw [em]; exact hx)
theorem ex_nc : ∀ {n c i j : Nat}, c ≤ 6 → Ex w n c i j → Nx w 35 i (j - i) := by
  intro n
  induction n with
  | zero => intro c i j _ h; exact h.elim
  | succ n ih =>
    intro c i j hc h
    have mid : ∀ {c1 c2 i m j : Nat}, c1 ≤ 6 → c2 ≤ 6 → Ex w n c1 i m → Ex w n c2 (m + 1) j → w m ≠ 36 → w m ≠ 37 → w m ≠ 35 → Nx w 35 i (j - i) := fun k1 k2 e1 e2 a1 a2 a3 => Nx.mid (ex_pr e1).2.2.2.2.1 (ex_pr e1).1 (ex_pr e2).1 (ih k1 e1) (ih k2 e2) a1 a2 a3
    rw [Ex] at h
    by_cases c0 : c = 0
    · rw [if_pos c0] at h
      rcases h with ⟨h1, h2⟩ | ⟨h1, h2⟩ | ⟨h1, h2, h3⟩ | ⟨h1, h2, h3, h4⟩
      · intro m hm _
        rw [show m = 0 by omega, show i + 0 = i by omega]; omega
      · have p := ex_pr h2
        have k := Nx.join (w := w) (x := 35) (i := i) (a := 0) (b := j - (i + 1)) rfl (fun m hm => by omega) (by rw [show i + 0 + 1 = i + 1 by omega]; exact ih (by omega) h2) (by rw [show i + 0 = i by omega]; omega) (by rw [show i + 0 = i by omega]; omega) (by rw [show i + 0 = i by omega]; omega)
        have := p.1
        rw [show 0 + 1 + (j - (i + 1)) = j - i by omega] at k
        exact k
      · have p := ex_pr h3
        have hj := p.1
        obtain ⟨b, dd⟩ := p.2.2.2.2.1.paren h1 (by rw [show i + 1 + (j - 1 - (i + 1)) = j - 1 by omega]; exact h2)
        intro m hm q
        by_cases z : m = 0
        · rw [z, show i + 0 = i by omega]; omega
        · have := dd m (by omega) (by omega)
          omega
      · have p := ex_pr h4
        have hj := p.1
        obtain ⟨b, dd⟩ := Bl.paren (w := w) (i := i + 1) (b := j - 1 - (i + 2)) (by rw [show i + 1 + 1 = i + 2 by omega]; exact p.2.2.2.2.1) h2 (by rw [show i + 1 + 1 + (j - 1 - (i + 2)) = j - 1 by omega]; exact h3)
        have d1 : dp w i 1 = 0 := by rw [dp_s]; show (0 : Int) + _ = 0; rw [show i + 0 = i by omega, if_neg (by omega), if_neg (by omega)]; omega
        intro m hm q
        by_cases z : m = 0
        · rw [z, show i + 0 = i by omega]; omega
        · by_cases y : m = 1
          · rw [y, h2]; omega
          · rw [show m = 1 + (m - 1) by omega, dp_app, d1] at q
            have := dd (m - 1) (by omega) (by omega)
            omega
    rw [if_neg c0] at h
    by_cases c1 : c = 1
    · rw [if_pos c1] at h
      rcases h with h | ⟨m, h1, h2, h3⟩
      · exact ih (by omega) h
      · exact mid (by omega) (by omega) h2 h3 (by omega) (by omega) (by omega)
    rw [if_neg c1] at h
    by_cases c2 : c = 2
    · rw [if_pos c2] at h
      rcases h with h | ⟨m, h1, h2, h3⟩
      · exact ih (by omega) h
      · exact mid (by omega) (by omega) h2 h3 (by omega) (by omega) (by omega)
    rw [if_neg c2] at h
    by_cases c3 : c = 3
    · rw [if_pos c3] at h
      rcases h with h | ⟨m, h1, h2, h3⟩ | ⟨h1, h2⟩
      · exact ih (by omega) h
      · exact mid (by omega) (by omega) h2 h3 (by omega) (by omega) (by omega)
      · have p := ex_pr h2
        have k := Nx.join (w := w) (x := 35) (i := i) (a := 0) (b := j - (i + 1)) rfl (fun m hm => by omega) (by rw [show i + 0 + 1 = i + 1 by omega]; exact ih (by omega) h2) (by rw [show i + 0 = i by omega]; omega) (by rw [show i + 0 = i by omega]; omega) (by rw [show i + 0 = i by omega]; omega)
        have := p.1
        rw [show 0 + 1 + (j - (i + 1)) = j - i by omega] at k
        exact k
    rw [if_neg c3] at h
    by_cases c4 : c = 4
    · rw [if_pos c4] at h
      rcases h with h | ⟨m, h1, h2, h3⟩
      · exact ih (by omega) h
      · exact mid (by omega) (by omega) h2 h3 (by omega) (by omega) (by omega)
    rw [if_neg c4] at h
    by_cases c5 : c = 5
    · rw [if_pos c5] at h
      rcases h with h | ⟨m, h1, h2, h3⟩
      · exact ih (by omega) h
      · exact mid (by omega) (by omega) h2 h3 (by omega) (by omega) (by omega)
    rw [if_neg c5] at h
    by_cases c6 : c = 6
    · rw [if_pos c6] at h
      rcases h with h | ⟨m, q, h1, h2, h3, h4, h5⟩
      · exact ih (by omega) h
      · have p3 := ex_pr h3
        have p4 := ex_pr h4
        have p5 := ex_pr h5
        have k := Nx.mid p4.2.2.2.2.1 p4.1 p5.1 (ih (by omega) h4) (ih (by omega) h5) (by omega) (by omega) (by omega)
        exact Nx.mid p3.2.2.2.2.1 p3.1 (by have := p4.1; have := p5.1; omega) (ih (by omega) h3) k (by omega) (by omega) (by omega)
    · omega
/-- the jobs for a list's parts, the first on top -/
def JL (w : Nat → Int) (p : Int) : Nat → Nat → Nat → List Int → Prop
  | 0, _, _, _ => False
  | f + 1, i, j, s => (s = [(j : Int), (i : Int), p] ∧ Eo w 6 i j) ∨ ∃ (m : Nat) (s2 : List Int), w m = 35 ∧ Eo w 6 i m ∧ s = (m : Int) :: (i : Int) :: p :: s2 ∧ JL w p f (m + 1) j s2
theorem JL.snoc {p : Int} {j : Nat} : ∀ {f i m : Nat} {s : List Int}, JL w p f i m s → w m = 35 → Eo w 6 (m + 1) j → JL w p (f + 1) i j (s ++ [(j : Int), ((m + 1 : Nat) : Int), p])
  | 0, _, _, _, h, _, _ => h.elim
  | f + 1, i, m, s, h, hm, he => by
    rcases h with ⟨h1, h2⟩ | ⟨m', s2, h1, h2, h3, h4⟩
    · exact Or.inr ⟨m, [(j : Int), ((m + 1 : Nat) : Int), p], hm, h2, by rw [h1]; rfl, Or.inl ⟨rfl, he⟩⟩
    · exact Or.inr ⟨m', s2 ++ [(j : Int), ((m + 1 : Nat) : Int), p], h1, h2, by rw [h3]; rfl, JL.snoc h4 hm he⟩
end LI
section LJ
variable {G : mG} {d a N g T : Nat} {M : mM}
/-- same trees -/
def sameT (M2 M3 : mM) (g : Nat) : Prop := ∀ n, so M3 g n = so M2 g n ∧ va M3 g n = va M2 g n ∧ fp M3 g n = fp M2 g n ∧ np M3 g n = np M2 g n
theorem sameT.trans {M1 M2 M3 : mM} (h : sameT M1 M2 g) (k : sameT M2 M3 g) : sameT M1 M3 g := fun n => ⟨(k n).1.trans (h n).1, (k n).2.1.trans (h n).2.1, (k n).2.2.1.trans (h n).2.2.1, (k n).2.2.2.trans (h n).2.2.2⟩
theorem TI.wk {st : List Int} {M2 : mM} (h : TI M a g N T st M2) (hw : Wd M a) : wk M2 a = wk M a := by
  funext k
  exact (h.1.lst n5 (fun q => by
    rcases q with q | q
    · exact (tL_no h.2.2.2.2.2 hw).1 q
    · omega)).2.1 k
end LJ
end
section
/-! The reference: what a tree is. -/
/-- how many parts a node has -/
def ari (s : Int) (k : Nat) : Prop := ((s = 31 ∨ s = 45) ∧ k = 1) ∨ ((18 ≤ s ∧ s ≤ 30) ∧ k = 2) ∨ (s = 32 ∧ k = 3) ∨ (s = 14 ∨ s = 15)
/-- a name as it is read: its word -/
def nmw (w : Nat → Int) (N : Nat) (v : Int) : Prop := 0 ≤ v ∧ v < N ∧ w v.toNat = 1
/-- md 0: nodes n to e - 1 are a tree; md k: they are k trees, brothers -/
def Tn (nm : Int → Prop) (M : mM) (g : Nat) : Nat → Nat → Nat → Nat → Prop
  | 0, _, _, _ => False
  | f + 1, md, n, e => if md = 0 then n < e ∧ ((e = n + 1 ∧ fp M g n = -1 ∧ (so M g n = 1 ∨ so M g n = 2 ∨ so M g n = 12 ∨ so M g n = 13) ∧ (so M g n = 2 → 0 ≤ va M g n ∧ va M g n < 1000000000) ∧ (so M g n = 1 → nm (va M g n))) ∨ ∃ k, 1 ≤ k ∧ ari (so M g n) k ∧ fp M g n = ((n + 1 : Nat) : Int) ∧ Tn nm M g f k (n + 1) e)
    else if md = 1 then np M g n = -1 ∧ Tn nm M g f 0 n e else ∃ m : Nat, np M g n = (m : Int) ∧ Tn nm M g f 0 n m ∧ Tn nm M g f (md - 1) m e
section TR
variable {nm : Int → Prop} {g : Nat} {M M' : mM}
theorem Tn.lt : ∀ {f md n e : Nat}, Tn nm M g f md n e → n < e := by
  intro f
  induction f with
  | zero => intro md n e h; exact h.elim
  | succ f ih =>
    intro md n e h
    rw [Tn] at h
    by_cases c0 : md = 0
    · rw [if_pos c0] at h; exact h.1
    · rw [if_neg c0] at h
      by_cases c1 : md = 1
      · rw [if_pos c1] at h; exact ih h.2
      · rw [if_neg c1] at h
        obtain ⟨m, -, h2, h3⟩ := h
        have := ih h2
        have := ih h3
        omega
theorem Tn.fr : ∀ {f md n e : Nat}, Tn nm M g f md n e → (∀ k, n ≤ k → k < e → so M' g k = so M g k ∧ va M' g k = va M g k ∧ fp M' g k = fp M g k) → (∀ k, n < k → k < e → np M' g k = np M g k) → (md ≠ 0 → np M' g n = np M g n) → Tn nm M' g f md n e := by
  intro f
  induction f with
  | zero => intro md n e h; exact h.elim
  | succ f ih =>
    intro md n e h h1 h2 h3
    have hlt := h.lt
    rw [Tn] at h ⊢
    by_cases c0 : md = 0
    · rw [if_pos c0] at h ⊢
      have k := h1 n (Nat.le_refl _) hlt
      rw [k.1, k.2.1, k.2.2]
      refine ⟨h.1, ?_⟩
      rcases h.2 with q | ⟨k', q1, q2, q3, q4⟩
      · exact Or.inl q
      · have := q4.lt
        exact Or.inr ⟨k', q1, q2, q3, ih q4 (fun x a b => h1 x (by omega) b) (fun x a b => h2 x (by omega) b) (fun _ => h2 (n + 1) (by omega) this)⟩
    · rw [if_neg c0] at h ⊢
      by_cases c1 : md = 1
      · rw [if_pos c1] at h ⊢
        exact ⟨by rw [h3 c0]; exact h.1, ih h.2 h1 h2 (fun z => absurd rfl z)⟩
      · rw [if_neg c1] at h ⊢
        obtain ⟨m, q1, q2, q3⟩ := h
        have l1 := q2.lt
        have l2 := q3.lt
        exact ⟨m, by rw [h3 c0]; exact q1, ih q2 (fun x a b => h1 x a (by omega)) (fun x a b => h2 x a (by omega)) (fun z => absurd rfl z), ih q3 (fun x a b => h1 x (by omega) b) (fun x a b => h2 x (by omega) b) (fun _ => h2 m l1 l2)⟩
theorem Tn.up : ∀ {f md n e : Nat}, Tn nm M g f md n e → Tn nm M g (f + 1) md n e := by
  intro f
  induction f with
  | zero => intro md n e h; exact h.elim
  | succ f ih =>
    intro md n e h
    rw [Tn] at h ⊢
    by_cases c0 : md = 0
    · rw [if_pos c0] at h ⊢
      refine ⟨h.1, ?_⟩
      rcases h.2 with q | ⟨k', q1, q2, q3, q4⟩
      · exact Or.inl q
      · exact Or.inr ⟨k', q1, q2, q3, ih q4⟩
    · rw [if_neg c0] at h ⊢
      by_cases c1 : md = 1
      · rw [if_pos c1] at h ⊢
        exact ⟨h.1, ih h.2⟩
      · rw [if_neg c1] at h ⊢
        obtain ⟨m, q1, q2, q3⟩ := h
        exact ⟨m, q1, ih q2, ih q3⟩
theorem Tn.add {f md n e : Nat} (h : Tn nm M g f md n e) : ∀ k, Tn nm M g (f + k) md n e
  | 0 => h
  | k + 1 => (Tn.add h k).up
/-- a tree; k brothers -/
def To (nm : Int → Prop) (M : mM) (g md n e : Nat) : Prop := ∃ f, Tn nm M g f md n e
theorem To.one {n e : Nat} (h : To nm M g 0 n e) (hp : np M g n = -1) : To nm M g 1 n e := by
  obtain ⟨f, h⟩ := h
  exact ⟨f + 1, by rw [Tn, if_neg (by omega), if_pos rfl]; exact ⟨hp, h⟩⟩
theorem To.cons {k n m e : Nat} (hk : 1 ≤ k) (h : To nm M g 0 n m) (hp : np M g n = (m : Int)) (h2 : To nm M g k m e) : To nm M g (k + 1) n e := by
  obtain ⟨f, h⟩ := h
  obtain ⟨f2, h2⟩ := h2
  refine ⟨f + f2 + 1, ?_⟩
  rw [Tn, if_neg (by omega), if_neg (by omega)]
  refine ⟨m, hp, h.add f2, ?_⟩
  have := h2.add f
  rw [Nat.add_comm f2 f] at this
  rw [show k + 1 - 1 = k by omega]
  exact this
theorem To.node {k n e : Nat} (hk : 1 ≤ k) (ha : ari (so M g n) k) (hf : fp M g n = ((n + 1 : Nat) : Int)) (h : To nm M g k (n + 1) e) : To nm M g 0 n e := by
  obtain ⟨f, h⟩ := h
  have := h.lt
  exact ⟨f + 1, by rw [Tn, if_pos rfl]; exact ⟨by omega, Or.inr ⟨k, hk, ha, hf, h⟩⟩⟩
theorem To.leaf {n : Nat} (hf : fp M g n = -1) (hs : so M g n = 1 ∨ so M g n = 2 ∨ so M g n = 12 ∨ so M g n = 13) (h2 : so M g n = 2 → 0 ≤ va M g n ∧ va M g n < 1000000000) (h1 : so M g n = 1 → nm (va M g n)) : To nm M g 0 n (n + 1) :=
  ⟨1, by rw [Tn, if_pos rfl]; exact ⟨by omega, Or.inl ⟨rfl, hf, hs, h2, h1⟩⟩⟩
theorem To.fr {md n e : Nat} (h : To nm M g md n e) (h1 : ∀ k, n ≤ k → k < e → so M' g k = so M g k ∧ va M' g k = va M g k ∧ fp M' g k = fp M g k) (h2 : ∀ k, n < k → k < e → np M' g k = np M g k) (h3 : md ≠ 0 → np M' g n = np M g n) : To nm M' g md n e := by
  obtain ⟨f, h⟩ := h
  exact ⟨f, h.fr h1 h2 h3⟩
/-- one tree has been joined to p, nothing else has changed below T -/
def JE (M2 M3 : mM) (g T : Nat) (p : Int) : Prop := (∀ n, n < T → so M3 g n = so M2 g n ∧ va M3 g n = va M2 g n) ∧ ((p < 0 ∧ ∀ n, n < T → fp M3 g n = fp M2 g n ∧ np M3 g n = np M2 g n) ∨ (0 ≤ p ∧ fp M2 g p.toNat = -1 ∧ (∀ n, n < T → fp M3 g n = if n = p.toNat then (T : Int) else fp M2 g n) ∧ ∀ n, n < T → np M3 g n = np M2 g n) ∨ (0 ≤ p ∧ ∃ f c l : Nat, fp M2 g p.toNat = c ∧ Lk M2 g T f c l ∧ (∀ n, n < T → fp M3 g n = fp M2 g n) ∧ ∀ n, n < T → np M3 g n = if n = l then (T : Int) else np M2 g n))
def chn (M : mM) (g T : Nat) (p : Int) : Prop := 0 ≤ p → fp M g p.toNat = -1 ∨ ∃ f c l : Nat, fp M g p.toNat = c ∧ Lk M g T f c l
theorem Lk.det {T f f' x l l' : Nat} (h : Lk M g T f x l) (h' : Lk M g T f' x l') : l = l' := by
  induction f generalizing x f' with
  | zero => exact h.elim
  | succ f ih =>
    cases f' with
    | zero => exact h'.elim
    | succ f' =>
      obtain ⟨-, h⟩ := h
      obtain ⟨-, h'⟩ := h'
      rcases h with ⟨h1, h2⟩ | ⟨y, h1, h2⟩ <;> rcases h' with ⟨k1, k2⟩ | ⟨y', k1, k2⟩
      · omega
      · omega
      · omega
      · have : y = y' := by omega
        subst this
        exact ih h2 k2
/-- the chain goes on to T -/
theorem Lk.ext {T T' f x l : Nat} (h : Lk M g T f x l) (hT : T < T') (hn : ∀ n, n < T → np M' g n = if n = l then (T : Int) else np M g n) (ht : np M' g T = -1) : ∃ f', Lk M' g T' f' x T := by
  induction f generalizing x with
  | zero => exact h.elim
  | succ f ih =>
    obtain ⟨h0, h⟩ := h
    have e := hn x h0
    rcases h with ⟨h1, h2⟩ | ⟨y, h1, h2⟩
    · subst h1
      rw [if_pos rfl] at e
      exact ⟨2, by omega, Or.inr ⟨T, e, hT, Or.inl ⟨rfl, ht⟩⟩⟩
    · by_cases z : x = l
      · -- the last one has no brother
        exfalso
        have hl : ∀ (f y : Nat), Lk M g T f y l → np M g l = -1 := by
          intro f
          induction f with
          | zero => intro y q; exact q.elim
          | succ f ihf =>
            intro y q
            rcases q.2 with ⟨q1, q2⟩ | ⟨y', q1, q2⟩
            · rw [← q1]; exact q2
            · exact ihf y' q2
        have := hl f y h2
        rw [z] at h1
        omega
      · rw [if_neg z] at e
        obtain ⟨f', hf'⟩ := ih h2
        exact ⟨f' + 1, by omega, Or.inr ⟨y, by rw [e]; exact h1, hf'⟩⟩
theorem JE.chain {M2 M3 : mM} {T T' : Nat} {p : Int} (h : JE M2 M3 g T p) (hp : 0 ≤ p) (hpT : p < T) (hT : T < T') (ht : np M3 g T = -1) : ∃ f c : Nat, fp M3 g p.toNat = c ∧ Lk M3 g T' f c T := by
  rcases h.2 with ⟨q, -⟩ | ⟨-, q1, q2, q3⟩ | ⟨-, f, c, l, q1, q2, q3, q4⟩
  · omega
  · refine ⟨1, T, ?_, hT, Or.inl ⟨rfl, ht⟩⟩
    rw [q2 p.toNat (by omega), if_pos rfl]
  · obtain ⟨f', hf'⟩ := q2.ext hT q4 ht
    exact ⟨f', c, by rw [q3 p.toNat (by omega)]; exact q1, hf'⟩
/-- a second tree after a first -/
theorem JE.next {M2 M3 M4 : mM} {T T3 : Nat} {p : Int} (h : JE M2 M3 g T p) (k : JE M3 M4 g T3 p) (hp : 0 ≤ p) (hpT : p < T) (hT : T < T3) (ht : np M3 g T = -1) : JE M2 M4 g T p ∧ np M4 g T = (T3 : Int) ∧ (∀ n, n < T3 → so M4 g n = so M3 g n ∧ va M4 g n = va M3 g n ∧ fp M4 g n = fp M3 g n) ∧ ∀ n, n < T3 → n ≠ T → np M4 g n = np M3 g n := by
  obtain ⟨f, c, hc1, hc2⟩ := h.chain hp hpT hT ht
  have k3 : (∀ n, n < T3 → fp M4 g n = fp M3 g n) ∧ ∀ n, n < T3 → np M4 g n = if n = T then (T3 : Int) else np M3 g n := by
    rcases k.2 with ⟨q, -⟩ | ⟨-, q1, -⟩ | ⟨-, f', c', l, q1, q2, q3, q4⟩
    · omega
    · omega
    · have e : c' = c := by omega
      subst e
      have := Lk.det q2 hc2
      subst this
      exact ⟨q3, q4⟩
  refine ⟨⟨fun n hn => ⟨(k.1 n (by omega)).1.trans (h.1 n hn).1, (k.1 n (by omega)).2.trans (h.1 n hn).2⟩, ?_⟩, by rw [k3.2 T hT, if_pos rfl], fun n hn => ⟨(k.1 n hn).1, (k.1 n hn).2, k3.1 n hn⟩, fun n hn hne => by rw [k3.2 n hn, if_neg hne]⟩
  rcases h.2 with ⟨q, -⟩ | ⟨-, q1, q2, q3⟩ | ⟨-, f', c', l, q1, q2, q3, q4⟩
  · omega
  · exact Or.inr (Or.inl ⟨hp, q1, fun n hn => by rw [k3.1 n (by omega)]; exact q2 n hn, fun n hn => by rw [k3.2 n (by omega), if_neg (by omega)]; exact q3 n hn⟩)
  · exact Or.inr (Or.inr ⟨hp, f', c', l, q1, q2, fun n hn => by rw [k3.1 n (by omega)]; exact q3 n hn, fun n hn => by rw [k3.2 n (by omega), if_neg (by omega)]; exact q4 n hn⟩)
end TR
end
section
/-! The reference: names. -/
section NA
variable {G : mG} {d a N g : Nat} {M : mM}
theorem n85 : a + 85 ∈ nums a := nums_o (by decide)
theorem n87 : a + 87 ∈ nums a := nums_o (by decide)
theorem n89 : a + 89 ∈ nums a := nums_o (by decide)
theorem s_MM_sameWord {x y : Nat} (hO : mOk M) (h : Wx M a N) (hx : x < N) (hy : y < N) : Ci G y_MM_sameWord (d + 2) [vr a, vi x, vi y] M (fun r M' => M' = M ∧ (r = 0 ∨ r = 1)) := by
  have h0 := h
  obtain ⟨⟨w, l, b⟩, l7, l9, wo, hT⟩ := h
  obtain ⟨-, ⟨x1, x2, x3⟩, -⟩ := wo x hx
  obtain ⟨-, ⟨y1, y2, y3⟩, -⟩ := wo y hy
  have hp := w.tape.2.1
  have at9 : ∀ {k : Nat} {Q : Int → mM → Prop}, k < N → (∀ z, z = nt M (a + 9) k → i32 z → Q z M) → Ci G y_MN_at (d + 1) [vr (a + 9), vi k] M Q := fun hk hQ => by
    refine (s_MN_at hO (w.nu n9) (by omega)).mono (fun z M1 e1 => ?_)
    obtain ⟨e1, hz⟩ := e1
    subst e1
    exact hQ z hz (by rw [hz]; exact (hO _ _).1)
  have pl : ∀ {k : Nat} {Q : Int → mM → Prop}, k < N → (∀ z, z = nt M (a + 7) k → i32 z → Q z M) → Ci G y_MM_place0 (d + 1) [vr a, vi k] M Q := fun hk hQ => by
    refine (s_MM_place0 (d := d) hO h0 hk).mono (fun z M1 e1 => ?_)
    obtain ⟨e1, hz⟩ := e1
    subst e1
    exact hQ z hz (by rw [hz]; exact (hO _ _).1)
  refine k_MM_sameWord hO (i32s (by omega) (by omega)) (i32s (by omega) (by omega)) ?_
  rw [w.1.2.2.1.2.2.1]
  refine ⟨w.1.1, (w.nu n9).1, at9 hx (fun z1 e1 i1 => ⟨i1, hO, w.1.1, pl hx (fun z2 e2 i2 => ⟨i2, hO, w.1.1, ?_⟩)⟩)⟩
  rw [w.1.2.2.1.2.2.1]
  refine ⟨(w.nu n9).1, at9 hy (fun z3 e3 i3 => ⟨i3, hO, w.1.1, pl hy (fun z4 e4 i4 => ⟨i4, hO, i32s (by omega) (by omega), i32s (by omega) (by omega), fun v hv => ?_⟩)⟩)⟩
  have hlen : v = 1 → z3 - z4 = z1 - z2 := fun q => by split at hv <;> omega
  suffices H : ∀ (c t : Nat) (u : Int), (t : Int) + c = z1 - z2 → (u = 0 ∨ u = 1) → (u = 1 → z3 - z4 = z1 - z2) → h_MM_sameWord_43 G (d + 1) a x y (z1 - z2) u t M (fun r M' => M' = M ∧ (r = 0 ∨ r = 1)) from
    H (z1 - z2).toNat 0 v (by omega) (by split at hv <;> omega) hlen
  intro c
  induction c with
  | zero =>
    intro t u ht hu _
    exact k_MM_sameWord_43 hO (i32s (by omega) (by omega)) (i32s (by omega) (by omega)) (i32s (by omega) (by omega)) (i32s (by omega) (by omega)) (i32s (by omega) (by omega)) ⟨fun _ => ⟨hu, rfl, hu⟩, fun q => absurd (Or.inl (by omega)) q⟩
  | succ c ih =>
    intro t u ht hu hl
    refine k_MM_sameWord_43 hO (i32s (by omega) (by omega)) (i32s (by omega) (by omega)) (i32s (by omega) (by omega)) (i32s (by omega) (by omega)) (i32s (by omega) (by omega)) ⟨fun _ => ⟨hu, rfl, hu⟩, fun q => ⟨w.1.1, pl hx (fun u1 f1 j1 => ⟨j1, hO, (w.nu hp).1, ?_⟩)⟩⟩
    have hu1 := hl (by omega)
    rw [show u1 + (t : Int) = (((u1 + (t : Int)).toNat : Nat) : Int) by omega]
    refine (s_MN_at hO (w.nu hp) (by omega)).mono (fun v1 M2 g2 => ?_)
    obtain ⟨g2, hv1⟩ := g2
    subst g2
    refine ⟨by rw [hv1]; exact (hO _ _).1, hO, w.1.1, pl hy (fun u2 f2 j2 => ⟨j2, hO, (w.nu hp).1, ?_⟩)⟩
    rw [show u2 + (t : Int) = (((u2 + (t : Int)).toNat : Nat) : Int) by omega]
    refine (s_MN_at hO (w.nu hp) (by omega)).mono (fun v2 M3 g3 => ?_)
    obtain ⟨g3, hv2⟩ := g3
    subst g3
    exact ⟨by rw [hv2]; exact (hO _ _).1, hO, fun v3 hv3 => ih (t + 1) v3 (by omega) (by split at hv3 <;> omega) (fun _ => hu1)⟩
/-- K names are known -/
def Nm (M : mM) (a g N K : Nat) : Prop := ln M (a + 85) = K ∧ ln M (a + 87) = K ∧ ln M (a + 89) = K ∧ K ≤ 200 ∧ ∀ k, k < K → (0 ≤ nt M (a + 85) k ∧ nt M (a + 85) k < N) ∧ ((nt M (a + 87) k = 3 ∧ 0 ≤ nt M (a + 89) k ∧ nt M (a + 89) k < mI M g 12) ∨ ((nt M (a + 87) k = 1 ∨ nt M (a + 87) k = 2) ∧ 0 ≤ nt M (a + 89) k ∧ nt M (a + 89) k < mI M g 6)) ∧ (nt M (a + 87) k = 1 → mI M (g + 13) (nt M (a + 89) k).toNat = 0)
theorem s_MM_find {y K : Nat} (hO : mOk M) (h : Wx M a N) (hn : Nm M a g N K) (hy : y < N) : Ci G y_MM_find (d + 3) [vr a, vi y] M (fun r M' => M' = M ∧ -1 ≤ r ∧ r < K) := by
  have w := h.1.1
  have hN := h.1.2.2
  obtain ⟨n1, n2, n3, n4, n5'⟩ := hn
  have r13 : mR M a 13 = a + 85 := w.1.2.2.2.2.1.1
  have l1 : mI M (a + 85) 1 = K := n1
  refine k_MM_find hO (i32s (by omega) (by omega)) ?_
  suffices H : ∀ (c k : Nat) (f : Int), k + c = K → -1 ≤ f → f < K → h_MM_find_4 G (d + 2) a y f k M (fun r M' => M' = M ∧ -1 ≤ r ∧ r < K) from
    H K 0 (-1) (by omega) (by omega) (by omega)
  intro c
  induction c with
  | zero =>
    intro k f hk f0 f1
    refine k_MM_find_4 hO (i32s (by omega) (by omega)) (i32s (by omega) (by omega)) (i32s (by omega) (by omega)) ?_
    rw [r13, l1]
    exact ⟨w.1.1, (w.nu n85).1, fun _ => ⟨rfl, f0, f1⟩, fun q => by omega⟩
  | succ c ih =>
    intro k f hk f0 f1
    obtain ⟨⟨a1, a2⟩, -⟩ := n5' k (by omega)
    refine k_MM_find_4 hO (i32s (by omega) (by omega)) (i32s (by omega) (by omega)) (i32s (by omega) (by omega)) ?_
    rw [r13, l1]
    refine ⟨w.1.1, (w.nu n85).1, fun q => by omega, fun _ => (s_MN_at hO (w.nu n85) (by omega)).mono (fun z M1 e1 => ?_)⟩
    obtain ⟨e1, hz⟩ := e1
    subst e1
    refine ⟨by rw [hz]; exact (hO _ _).1, hO, w.1.1, ?_⟩
    rw [show z = ((z.toNat : Nat) : Int) by omega]
    refine (s_MM_sameWord (d := d) hO h (by omega) hy).mono (fun r M2 e2 => ?_)
    obtain ⟨e2, hr⟩ := e2
    subst e2
    exact ⟨i32s (by omega) (by omega), hO, fun v hv => ih (k + 1) v (by omega) (by split at hv <;> omega) (by split at hv <;> omega)⟩
theorem s_MM_stop {c p : Int} (hc : i32 c) (hp : i32 p) (hO : mOk M) (h : Wd M a) : Cv G y_MM_stop d [vr a, vi c, vi p] M (fun M' => Mv (fun _ => False) (fun x => x = a) M a M' ∧ mI M' a 16 = c ∧ mI M' a 17 = p ∧ ∀ i, i ≠ 16 → i ≠ 17 → mI M' a i = mI M a i) := by
  refine k_MM_stop hO hc hp ⟨h.1.1, fun M1 e1 M2 e2 => ?_⟩
  obtain ⟨m1, f1⟩ := mv_fld hc hO h e1
  obtain ⟨m2, f2⟩ := mv_fld hp m1.1 m1.2.1 e2
  exact ⟨m1.trans m2, by rw [f2, if_neg (by omega), f1, if_pos rfl], by rw [f2, if_pos rfl], fun i i1 i2 => by rw [f2, if_neg i2, f1, if_neg i1]⟩
/-- how many brothers there are -/
theorem s_pt14 {nm : Int → Prop} {T : Nat} (hO : mOk M) (h : Wd M a) (hg : g = a + 13 ∨ g = a + 49) (hd : mR M a 10 = g) (hn : nd M g T) (hT : T ≤ 100000) : ∀ (k f n e : Nat) (c : Int), 1 ≤ k → Tn nm M g f k n e → e ≤ T → 0 ≤ c → c + k ≤ 200000 → h_MM_parts_14 G d a c n M (fun r M' => M' = M ∧ r = c + k) := by
  have gp := h.gp hg
  have g11 : tL g (g + 11) := by omega
  have u11 := h.nu (tL_in (a := a) hg g11)
  have r5 : mR M g 5 = g + 11 := gp.2.1.2.2.2.2.2.1
  intro k
  induction k with
  | zero => intro f n e c hk; omega
  | succ k ih =>
    intro f n e c hk ht heT c0 c1
    have hlt := ht.lt
    cases f with
    | zero => exact ht.elim
    | succ f =>
      have ht' : Tn nm M g (f + 1) (k + 1) n e := ht
      rw [Tn, if_neg (by omega)] at ht'
      refine k_MM_parts_14 hO ⟨by omega, by omega⟩ (i32s (by omega) (by omega)) ⟨fun q => by omega, fun _ => ?_⟩
      rw [hd, r5]
      refine ⟨h.1.1, gp.1, u11.1, (s_MN_at hO u11 (by rw [hn _ g11]; omega)).mono (fun z M1 e1 => ?_)⟩
      obtain ⟨e1, hz⟩ := e1
      subst e1
      refine ⟨by rw [hz]; exact (hO _ _).1, hO, ?_⟩
      by_cases k0 : k + 1 = 1
      · rw [if_pos k0] at ht'
        have : z = -1 := hz.trans ht'.1
        rw [this]
        exact k_MM_parts_14 hO ⟨by omega, by omega⟩ (i32s (by omega) (by omega)) ⟨fun _ => ⟨rfl, by omega⟩, fun q => by omega⟩
      · rw [if_neg k0] at ht'
        obtain ⟨m, q1, q2, q3⟩ := ht'
        have hzm : z = (m : Int) := hz.trans q1
        rw [hzm]
        have q3' : Tn nm M1 g f k m e := q3
        have := ih f m e (c + 1) (by omega) q3' heT (by omega) (by omega)
        rw [show c + ((k + 1 : Nat) : Int) = c + 1 + (k : Int) by omega]
        exact this
end NA
end
