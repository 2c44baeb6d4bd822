section
section
/-! The reference: an expression is split into expressions. -/
section SP
variable {w : Nat → Int}
/-- a question; an operator; parentheses; a sign before; a leaf; a list -/
def spQ (w : Nat → Int) (i j : Nat) : Prop := (∃ m q : Nat, lo w i j = (m : Int) ∧ w m = 32 ∧ w q = 33 ∧ Eo w 5 i m ∧ Eo w 6 (m + 1) q ∧ Eo w 6 (q + 1) j)
  ∨ (∃ m : Nat, lo w i j = (m : Int) ∧ ((24 ≤ w m ∧ w m ≤ 30) ∨ (18 ≤ w m ∧ w m ≤ 23)) ∧ Eo w 6 i m ∧ Eo w 6 (m + 1) j)
  ∨ (lo w i j = -1 ∧ w i = 36 ∧ w (j - 1) = 37 ∧ Eo w 6 (i + 1) (j - 1))
  ∨ (lo w i j = -1 ∧ (w i = 25 ∨ w i = 31) ∧ Eo w 6 (i + 1) j)
  ∨ (lo w i j = -1 ∧ j = i + 1 ∧ (w i = 1 ∨ w i = 2 ∨ w i = 12 ∨ w i = 13))
  ∨ (lo w i j = -1 ∧ (w i = 14 ∨ w i = 15) ∧ w (i + 1) = 36 ∧ w (j - 1) = 37 ∧ Eo w 7 (i + 2) (j - 1))
theorem lo_op {c c1 c2 i m j : Nat} (h1 : Pr w c1 i m) (h2 : Pr w c2 (m + 1) j) (hc : 0 < c) (hc1 : c1 ≤ c) (hc2 : c2 ≤ c) (hc26 : c < 6 → c2 < c) (hc16 : c = 6 → c1 ≤ 5) (hop : (24 ≤ w m ∧ w m ≤ 32) ∨ (18 ≤ w m ∧ w m ≤ 23)) (hl : lz w i m = c) (hn : w i = 31 → 4 ≤ c) : lo w i j = (m : Int) := by
  obtain ⟨p1, p2, p3, p4, p5, p6, p7⟩ := h1
  obtain ⟨q1, q2, q3, q4, q5, q6, q7⟩ := h2
  have em : i + (m - i) = m := by omega
  have hb : bh w i (j - i) = ((m : Int), c) := by
    rw [show j - i = (m - i) + 1 + (j - (m + 1)) by first | rfl | omega]
    have hr := Lb.right (i := i) (a := m - i) (b := j - (m + 1)) (c2 := c2) p5 (by rw [em]; exact q7) (by rw [em]; omega) (by rw [em]; omega) (by rw [em]; unfold opd; omega) (by rw [em]; exact q2)
    have hm0 : ll w i (m - i) = c := by
      unfold ll
      rw [if_pos p5.1, em, hl]
    have k := bh_max (w := w) (i := i) (a := m - i) hc (fun k hk => by have := lb_ll p7 hk; omega) hm0 (j - (m + 1)) (fun k k1 k2 => by have := hr k k1 k2; exact ⟨by omega, fun z => by have := hc26 z; omega⟩) (fun z k hk => by have := lb_ll p7 hk; have := hc16 z; omega)
    rw [em] at k
    exact k
  unfold lo
  rw [hb, if_neg]
  show ¬ (w i = 31 ∧ c < 4)
  intro q
  have := hn q.1
  omega
theorem lo_none {i j : Nat} (h : Pr w 0 i j) : lo w i j = -1 := by
  have hb : bh w i (j - i) = (-1, 0) := bh_none _ (fun k hk => by have := lb_ll h.2.2.2.2.2.2 hk; omega)
  unfold lo
  rw [hb]
  split <;> rfl
theorem lo_not {i j : Nat} (h : Pr w 3 i j) (h31 : w i = 31) : lo w i j = -1 := by
  have hb := bh_le (w := w) (i := i) (c := 3) (j - i) (fun k hk => lb_ll h.2.2.2.2.2.2 hk)
  unfold lo
  rw [if_pos ⟨h31, by omega⟩]
theorem ex_sp : ∀ {n c i j : Nat}, c ≤ 6 → Ex w n c i j → spQ w i j := by
  intro n
  induction n with
  | zero => intro c i j _ h; exact h.elim
  | succ n ih =>
    intro c i j hc h
    have hp := ex_pr h
    rw [Ex] at h
    by_cases c0 : c = 0
    · rw [if_pos c0] at h
      subst c0
      have hlo := lo_none hp
      rcases h with ⟨h1, h2⟩ | ⟨h1, h2⟩ | ⟨h1, h2, h3⟩ | ⟨h1, h2, h3, h4⟩
      · exact Or.inr (Or.inr (Or.inr (Or.inr (Or.inl ⟨hlo, h1, h2⟩))))
      · exact Or.inr (Or.inr (Or.inr (Or.inl ⟨hlo, Or.inl h1, Eo.six (by omega) ⟨n, h2⟩⟩)))
      · exact Or.inr (Or.inr (Or.inl ⟨hlo, h1, h2, ⟨n, h3⟩⟩))
      · exact Or.inr (Or.inr (Or.inr (Or.inr (Or.inr ⟨hlo, h1, h2, h3, ⟨n, h4⟩⟩))))
    rw [if_neg c0] at h
    by_cases c1 : c = 1
    · rw [if_pos c1] at h
      subst c1
      rcases h with h | ⟨m, h1, h2, h3⟩
      · exact ih (by omega) h
      · exact Or.inr (Or.inl ⟨m, lo_op (c := 1) (ex_pr h2) (ex_pr h3) (by omega) (by omega) (by omega) (fun _ => by omega) (fun _ => by omega) (by omega) (lz_26 (by omega)) (fun q => absurd q ((ex_pr h2).2.2.1 (by omega))), by omega, Eo.six (by omega) ⟨n, h2⟩, Eo.six (by omega) ⟨n, h3⟩⟩)
    rw [if_neg c1] at h
    by_cases c2 : c = 2
    · rw [if_pos c2] at h
      subst c2
      rcases h with h | ⟨m, h1, h2, h3⟩
      · exact ih (by omega) h
      · exact Or.inr (Or.inl ⟨m, lo_op (c := 2) (ex_pr h2) (ex_pr h3) (by omega) (by omega) (by omega) (fun _ => by omega) (fun _ => by omega) (by omega) (lz_24 h1 (ex_pr h2).1 (ex_pr h2).2.2.2.1) (fun q => absurd q ((ex_pr h2).2.2.1 (by omega))), by omega, Eo.six (by omega) ⟨n, h2⟩, Eo.six (by omega) ⟨n, h3⟩⟩)
    rw [if_neg c2] at h
    by_cases c3 : c = 3
    · rw [if_pos c3] at h
      subst c3
      rcases h with h | ⟨m, h1, h2, h3⟩ | ⟨h1, h2⟩
      · exact ih (by omega) h
      · exact Or.inr (Or.inl ⟨m, lo_op (c := 3) (ex_pr h2) (ex_pr h3) (by omega) (by omega) (by omega) (fun _ => by omega) (fun _ => by omega) (by omega) (lz_18 h1) (fun q => absurd q ((ex_pr h2).2.2.1 (by omega))), by omega, Eo.six (by omega) ⟨n, h2⟩, Eo.six (by omega) ⟨n, h3⟩⟩)
      · exact Or.inr (Or.inr (Or.inr (Or.inl ⟨lo_not hp h1, Or.inr h1, Eo.six (by omega) ⟨n, h2⟩⟩)))
    rw [if_neg c3] at h
    by_cases c4 : c = 4
    · rw [if_pos c4] at h
      subst c4
      rcases h with h | ⟨m, h1, h2, h3⟩
      · exact ih (by omega) h
      · exact Or.inr (Or.inl ⟨m, lo_op (c := 4) (ex_pr h2) (ex_pr h3) (by omega) (by omega) (by omega) (fun _ => by omega) (fun _ => by omega) (by omega) (lz_29 h1) (fun _ => by omega), by omega, Eo.six (by omega) ⟨n, h2⟩, Eo.six (by omega) ⟨n, h3⟩⟩)
    rw [if_neg c4] at h
    by_cases c5 : c = 5
    · rw [if_pos c5] at h
      subst c5
      rcases h with h | ⟨m, h1, h2, h3⟩
      · exact ih (by omega) h
      · exact Or.inr (Or.inl ⟨m, lo_op (c := 5) (ex_pr h2) (ex_pr h3) (by omega) (by omega) (by omega) (fun _ => by omega) (fun _ => by omega) (by omega) (lz_30 h1) (fun _ => by omega), by omega, Eo.six (by omega) ⟨n, h2⟩, Eo.six (by omega) ⟨n, h3⟩⟩)
    rw [if_neg c5] at h
    by_cases c6 : c = 6
    · rw [if_pos c6] at h
      subst c6
      rcases h with h | ⟨m, q, h1, h2, h3, h4, h5⟩
      · exact ih (by omega) h
      · -- the right side of the question, up to the end
        have p5 := ex_pr h3
        have p6 := ex_pr h4
        have p7 := ex_pr h5
        have hq5 := p5.2.2.2.2.1
        have hlo : lo w i j = (m : Int) := by
          have em : i + (m - i) = m := by have := p5.1; omega
          have hb : bh w i (j - i) = ((m : Int), 6) := by
            have hm1 := p5.1
            have hq1 := p6.1
            have hj1 := p7.1
            rw [show j - i = (m - i) + 1 + (j - (m + 1)) by first | rfl | omega]
            have hm0 : ll w i (m - i) = 6 := by
              unfold ll
              rw [if_pos hq5.1, em, lz_32 h1]
            have k := bh_max (w := w) (i := i) (a := m - i) (c := 6) (by omega) (fun k hk => by have := lb_ll p5.2.2.2.2.2.2 hk; omega) hm0 (j - (m + 1)) (fun k k1 k2 => ⟨by unfold ll; have := lz_le (w := w) (i := i) (k := i + k); split <;> omega, fun z => by omega⟩) (fun z k hk => by have := lb_ll p5.2.2.2.2.2.2 hk; omega)
            rw [em] at k
            exact k
          unfold lo
          rw [hb, if_neg]
          show ¬ (w i = 31 ∧ 6 < 4)
          omega
        exact Or.inl ⟨m, q, hlo, h1, h2, ⟨n, h3⟩, ⟨n, h4⟩, ⟨n, h5⟩⟩
    · omega
theorem Eo.sp {i j : Nat} (h : Eo w 6 i j) : spQ w i j := by
  obtain ⟨n, h⟩ := h
  exact ex_sp (by omega) h
/-- a list: its last part, and what is before -/
theorem Eo.lst {i j : Nat} (h : Eo w 7 i j) : Eo w 6 i j ∨ ∃ m, w m = 35 ∧ Eo w 7 i m ∧ Eo w 6 (m + 1) j := by
  obtain ⟨n, h⟩ := h
  cases n with
  | zero => exact h.elim
  | succ n =>
    have h' : Ex w (n + 1) 7 i j := h
    rw [Ex] at h'
    have h'' : Ex w n 6 i j ∨ ∃ m, w m = 35 ∧ Ex w n 7 i m ∧ Ex w n 6 (m + 1) j := h'
    rcases h'' with h | ⟨m, h1, h2, h3⟩
    · exact Or.inl ⟨n, h⟩
    · exact Or.inr ⟨m, h1, ⟨n, h2⟩, ⟨n, h3⟩⟩
end SP
end
section
/-! The reference: its searches among the words. -/
section SR
variable {G : mG} {d a N : Nat} {M : mM}
/-- N words are there -/
def Wn (M : mM) (a N : Nat) : Prop := Wd M a ∧ ln M (a + 5) = N ∧ N ≤ 16385
abbrev wk (M : mM) (a : Nat) : Nat → Int := nt M (a + 5)
theorem n5 : a + 5 ∈ nums a := nums_o (by decide)
theorem s_MM_word1 {k : Nat} (hO : mOk M) (h : Wn M a N) (hk : k < N) : Ci G y_MM_word1 (d + 1) [vr a, vi k] M (fun x M' => M' = M ∧ x = wk M a k) := by
  obtain ⟨w, l, b⟩ := h
  refine k_MM_word1 hO (i32s (by omega) (by omega)) ?_
  rw [w.1.2.2.1.1]
  refine ⟨w.1.1, (w.nu n5).1, (s_MN_at hO (w.nu n5) (by omega)).mono (fun x M1 h1 => ?_)⟩
  obtain ⟨e1, hx⟩ := h1
  subst e1
  exact ⟨by rw [hx]; exact (hO _ _).1, hO, rfl, hx⟩
theorem wk32 (hO : mOk M) {k : Nat} : i32 (wk M a k) := (hO _ _).1
theorem s_MM_isOperand {k : Nat} (hO : mOk M) (h : Wn M a N) (hk : k < N) : Ci G y_MM_isOperand (d + 2) [vr a, vi k] M (fun x M' => M' = M ∧ (x = 0 ∨ x = 1) ∧ (x ≠ 0 ↔ opd (wk M a k))) := by
  have hK := h.1.1.1
  have one : ∀ x M', (M' = M ∧ x = wk M a k) → i32 x ∧ mOk M' := fun x M' q => by rw [q.1, q.2]; exact ⟨wk32 hO, hO⟩
  refine k_MM_isOperand hO (i32s (by have := h.2.2; omega) (by have := h.2.2; omega)) ⟨hK, (s_MM_word1 (d := d) hO h hk).mono (fun x M1 h1 => ?_)⟩
  obtain ⟨e1, hx⟩ := h1
  subst e1
  refine ⟨by rw [hx]; exact wk32 hO, hO, fun q => ⟨rfl, Or.inr rfl, ⟨fun _ => by unfold opd; omega, fun _ => by omega⟩⟩, fun q1 => ⟨hK, (s_MM_word1 (d := d) hO h hk).mono (fun x2 M2 h2 => ?_)⟩⟩
  obtain ⟨e2, hx2⟩ := h2
  subst e2
  refine ⟨by rw [hx2]; exact wk32 hO, hO, fun q => ⟨rfl, Or.inr rfl, ⟨fun _ => by unfold opd; omega, fun _ => by omega⟩⟩, fun q2 => ⟨hK, (s_MM_word1 (d := d) hO h hk).mono (fun x3 M3 h3 => ?_)⟩⟩
  obtain ⟨e3, hx3⟩ := h3
  subst e3
  refine ⟨by rw [hx3]; exact wk32 hO, hO, fun q => ⟨rfl, Or.inr rfl, ⟨fun _ => by unfold opd; omega, fun _ => by omega⟩⟩, fun q3 => ⟨hK, (s_MM_word1 (d := d) hO h hk).mono (fun x4 M4 h4 => ?_)⟩⟩
  obtain ⟨e4, hx4⟩ := h4
  subst e4
  refine ⟨by rw [hx4]; exact wk32 hO, hO, fun q => ⟨rfl, Or.inr rfl, ⟨fun _ => by unfold opd; omega, fun _ => by omega⟩⟩, fun q4 => ⟨hK, (s_MM_word1 (d := d) hO h hk).mono (fun x5 M5 h5 => ?_)⟩⟩
  obtain ⟨e5, hx5⟩ := h5
  subst e5
  refine ⟨by rw [hx5]; exact wk32 hO, hO, fun v hv => ⟨rfl, by split at hv <;> omega, ?_⟩⟩
  unfold opd
  split at hv <;> omega
theorem s_MM_looseness {k i : Nat} (hO : mOk M) (h : Wn M a N) (hk : k < N) (hi : i ≤ k) : Ci G y_MM_looseness (d + 3) [vr a, vi k, vi i] M (fun x M' => M' = M ∧ x = (lz (wk M a) i k : Int)) := by
  have hK := h.1.1.1
  have hN := h.2.2
  refine k_MM_looseness hO (i32s (by omega) (by omega)) (i32s (by omega) (by omega)) ⟨hK, (s_MM_word1 (d := d + 1) hO h hk).mono (fun x M1 h1 => ?_)⟩
  obtain ⟨e1, hx⟩ := h1
  subst e1
  unfold lz
  refine ⟨by rw [hx]; exact wk32 hO, hO, fun q => ⟨rfl, by rw [if_pos (by omega)]; rfl⟩, fun q1 => ⟨fun q v hv => ⟨rfl, ?_⟩, fun q2 => (s_MM_isComparison (by rw [hx]; exact wk32 hO) hO).mono (fun y M2 h2 => ?_)⟩⟩
  · rw [if_neg (by omega)]
    by_cases z : x = 30
    · rw [if_pos z] at hv
      rw [if_pos (by omega), hv]; rfl
    · rw [if_neg z] at hv
      rw [if_neg (by omega), if_pos (by omega), hv]; rfl
  · obtain ⟨e2, hy, hyq⟩ := h2
    subst e2
    rw [if_neg (show ¬ wk M2 a k = 32 by first | rfl | omega), if_neg (show ¬ wk M2 a k = 30 by first | rfl | omega), if_neg (show ¬ wk M2 a k = 29 by first | rfl | omega)]
    refine ⟨i32s (by omega) (by omega), hO, fun y0 => ?_, fun y0 => ⟨rfl, by rw [if_pos (by have := hyq.1 y0; omega)]; rfl⟩⟩
    rw [if_neg (show ¬ (18 ≤ wk M2 a k ∧ wk M2 a k ≤ 23) from fun z => absurd y0 (hyq.2 (by omega)))]
    refine ⟨fun q => ?_, fun q v hv => ⟨rfl, ?_⟩⟩
    · rw [if_pos (show wk M2 a k = 24 ∨ wk M2 a k = 25 by first | rfl | omega)]
      refine ⟨fun z => k_MM_looseness_80 hO (i32s (by omega) (by omega)) ⟨rfl, by rw [if_neg (fun u => by have := u.1; omega)]; rfl⟩, fun z => ⟨hK, ?_⟩⟩
      rw [show (k : Int) - 1 = ((k - 1 : Nat) : Int) by first | rfl | omega]
      refine (s_MM_isOperand (d := d) hO h (k := k - 1) (by omega)).mono (fun u M3 h3 => ?_)
      obtain ⟨e3, hu, huq⟩ := h3
      subst e3
      refine ⟨i32s (by omega) (by omega), hO, fun u0 => k_MM_looseness_80 hO (i32s (by omega) (by omega)) ⟨rfl, by rw [if_neg (fun v => huq.2 v.2 u0)]; rfl⟩, fun u0 => k_MM_looseness_80 hO (i32s (by omega) (by omega)) ⟨rfl, by rw [if_pos ⟨by omega, huq.1 u0⟩]; rfl⟩⟩
    · rw [if_neg (show ¬ (wk M2 a k = 24 ∨ wk M2 a k = 25) by first | rfl | omega)]
      by_cases z : x = 26 ∨ (x = 27 ∨ x = 28)
      · rw [if_pos z] at hv
        rw [if_pos (by omega), hv]; rfl
      · rw [if_neg z] at hv
        rw [if_neg (by omega), hv]; rfl
theorem dp_b {w : Nat → Int} {i : Nat} : ∀ m : Nat, -(m : Int) ≤ dp w i m ∧ dp w i m ≤ m
  | 0 => by show -((0 : Nat) : Int) ≤ 0 ∧ (0 : Int) ≤ ((0 : Nat) : Int); omega
  | m + 1 => by
    have := dp_b (w := w) (i := i) m
    rw [dp_s]
    split <;> (try split) <;> omega
theorem aq_b {w : Nat → Int} {i : Nat} : ∀ m : Nat, -(m : Int) ≤ aq w i m ∧ aq w i m ≤ m
  | 0 => by show -((0 : Nat) : Int) ≤ 0 ∧ (0 : Int) ≤ ((0 : Nat) : Int); omega
  | m + 1 => by
    have := aq_b (w := w) (i := i) m
    rw [aq_s]
    split <;> (try split) <;> (try split) <;> omega
theorem lz_37 {w : Nat → Int} {i m : Nat} (h : w m = 37) : lz w i m = 0 := by
  unfold lz
  rw [if_neg (by omega), if_neg (by omega), if_neg (by omega), if_neg (by omega), if_neg (by omega), if_neg (by omega)]
theorem bh_b {w : Nat → Int} {i : Nat} : ∀ m, -1 ≤ (bh w i m).1 ∧ (bh w i m).1 ≤ (i + m : Nat) ∧ (bh w i m).2 ≤ 6
  | 0 => ⟨by show (-1 : Int) ≤ -1; omega, by show (-1 : Int) ≤ _; omega, Nat.zero_le _⟩
  | m + 1 => by
    have k := bh_b (w := w) (i := i) m
    have l : ll w i m ≤ 6 := by unfold ll; have := lz_le (w := w) (i := i) (k := i + m); split <;> omega
    rw [bh_s]
    split
    · exact ⟨by show (-1 : Int) ≤ ((i + m : Nat) : Int); omega, by show ((i + m : Nat) : Int) ≤ _; omega, l⟩
    · exact ⟨k.1, by omega, k.2.2⟩
theorem s_MM_loosest {i j : Nat} (hO : mOk M) (h : Wn M a N) (hij : i < j) (hj : j ≤ N) : Ci G y_MM_loosest (d + 4) [vr a, vi i, vi j] M (fun x M' => M' = M ∧ x = lo (wk M a) i j) := by
  have hK := h.1.1.1
  have hN := h.2.2
  refine k_MM_loosest hO (i32s (by omega) (by omega)) (i32s (by omega) (by omega)) ?_
  suffices H : ∀ (c m : Nat), m + c = j - i → h_MM_loosest_11 G (d + 3) a i j (bh (wk M a) i m).1 (bh (wk M a) i m).2 (dp (wk M a) i m) (i + m : Nat) M (fun x M' => M' = M ∧ x = lo (wk M a) i j) from
    H (j - i) 0 (by omega)
  intro c
  induction c with
  | zero =>
    intro m hm
    have em : m = j - i := by omega
    have b := bh_b (w := wk M a) (i := i) m
    have db := dp_b (w := wk M a) (i := i) m
    refine k_MM_loosest_11 hO (i32s (by omega) (by omega)) (i32s (by omega) (by omega)) (i32s (by omega) (by omega)) (i32s (by omega) (by omega)) (i32s (by omega) (by omega)) (i32s (by omega) (by omega)) ⟨fun _ => ⟨hK, (s_MM_word1 (d := d + 2) hO h (by omega)).mono (fun x M1 h1 => ?_)⟩, fun q => by omega⟩
    obtain ⟨e1, hx⟩ := h1
    subst e1
    refine ⟨by rw [hx]; exact wk32 hO, hO, fun v hv => ⟨rfl, ?_⟩⟩
    unfold lo
    rw [← em]
    by_cases z : ¬ (x = 31) ∨ 4 ≤ ((bh (wk M1 a) i m).2 : Int)
    · rw [if_pos z] at hv
      rw [if_neg (by omega)]
      exact hv
    · rw [if_neg z] at hv
      rw [if_pos (by omega)]
      exact hv
  | succ c ih =>
    intro m hm
    have nx := ih (m + 1) (by omega)
    have b := bh_b (w := wk M a) (i := i) m
    have db := dp_b (w := wk M a) (i := i) m
    have hl : ll (wk M a) i m ≤ 6 := by unfold ll; have := lz_le (w := wk M a) (i := i) (k := i + m); split <;> omega
    refine k_MM_loosest_11 hO (i32s (by omega) (by omega)) (i32s (by omega) (by omega)) (i32s (by omega) (by omega)) (i32s (by omega) (by omega)) (i32s (by omega) (by omega)) (i32s (by omega) (by omega)) ⟨fun q => by omega, fun _ => ⟨hK, (s_MM_word1 (d := d + 2) hO h (by omega)).mono (fun x M1 h1 => ?_)⟩⟩
    obtain ⟨e1, hx⟩ := h1
    subst e1
    refine ⟨by rw [hx]; exact wk32 hO, hO, fun v hv => ?_⟩
    have h55 : ∀ k0 : Int, k0 = (ll (wk M1 a) i m : Int) → h_MM_loosest_55 G (d + 3) a i j (bh (wk M1 a) i m).1 (bh (wk M1 a) i m).2 v (i + m : Nat) k0 M1 (fun x M' => M' = M1 ∧ x = lo (wk M1 a) i j) := fun k0 hk0 => by
      refine k_MM_loosest_55 hO (i32s (by omega) (by omega)) (i32s (by omega) (by omega)) (i32s (by omega) (by omega)) (i32s (by omega) (by omega)) (i32s (by split at hv <;> omega) (by split at hv <;> omega)) (i32s (by omega) (by omega)) (i32s (by omega) (by omega)) (fun u hu t ht => ⟨hK, (s_MM_word1 (d := d + 2) hO h (by omega)).mono (fun y M2 h2 => ?_)⟩)
      obtain ⟨e2, hy⟩ := h2
      subst e2
      refine ⟨by rw [hy]; exact wk32 hO, hO, fun r hr => ?_⟩
      have hu' : u = (bh (wk M2 a) i (m + 1)).1 ∧ t = ((bh (wk M2 a) i (m + 1)).2 : Int) := by
        rw [bh_s]
        by_cases z : (bh (wk M2 a) i m).2 < ll (wk M2 a) i m ∨ (0 < ll (wk M2 a) i m ∧ ll (wk M2 a) i m = (bh (wk M2 a) i m).2 ∧ ll (wk M2 a) i m < 6)
        · rw [if_pos z]
          rw [if_pos (by omega)] at hu ht
          exact ⟨hu, by rw [ht, hk0]⟩
        · rw [if_neg z]
          rw [if_neg (by omega)] at hu ht
          exact ⟨hu, ht⟩
      have hr' : r = dp (wk M2 a) i (m + 1) := by
        rw [dp_s, ← hy]
        have hxy : y = x := hy.trans hx.symm
        split at hr <;> split at hv <;> (try split) <;> (try split) <;> omega
      rw [hu'.1, hu'.2, hr']
      have := nx
      rw [show (((i + (m + 1) : Nat)) : Int) = ((i + m : Nat) : Int) + 1 by first | rfl | omega] at this
      exact this
    refine ⟨i32s (by split at hv <;> omega) (by split at hv <;> omega), fun v0 => ⟨hK, (s_MM_looseness (d := d) hO h (by omega) (by omega)).mono (fun y M2 h2 => ?_)⟩, fun v0 => h55 0 ?_⟩
    · obtain ⟨e2, hy⟩ := h2
      subst e2
      have hyb := lz_le (w := wk M2 a) (i := i) (k := i + m)
      refine ⟨i32s (by omega) (by omega), hO, h55 y ?_⟩
      unfold ll
      by_cases z : dp (wk M2 a) i m = 0
      · rw [if_pos z]; exact hy
      · rw [if_neg z, hy, lz_37 (by split at hv <;> omega)]
    · unfold ll
      by_cases z : dp (wk M1 a) i m = 0
      · rw [if_pos z, lz_37 (by split at hv <;> omega)]; rfl
      · rw [if_neg z]; rfl
theorem s_MM_colonOf {m q l : Nat} (hO : mOk M) (h : Wn M a N) (hm : m < q) (hq : q < N) (hl : l ≤ 20000) (hb : Bl (wk M a) (m + 1) (q - (m + 1))) (h33 : wk M a q = 33) : Ci G y_MM_colonOf (d + 2) [vr a, vi m, vi l] M (fun x M' => M' = M ∧ x = q) := by
  have hK := h.1.1.1
  have hN := h.2.2
  refine k_MM_colonOf hO (i32s (by omega) (by omega)) (i32s (by omega) (by omega)) ?_
  suffices H : ∀ (c t : Nat), t + c = q - (m + 1) → h_MM_colonOf_11 G (d + 1) a (aq (wk M a) (m + 1) t) (dp (wk M a) (m + 1) t) (m + t : Nat) 0 M (fun x M' => M' = M ∧ x = q) from
    H (q - (m + 1)) 0 (by omega)
  intro c
  induction c with
  | zero =>
    intro t ht
    have d0 : dp (wk M a) (m + 1) t = 0 := by rw [show t = q - (m + 1) by first | rfl | omega]; exact hb.1
    have a0 : aq (wk M a) (m + 1) t = 0 := by rw [show t = q - (m + 1) by first | rfl | omega]; exact hb.2.1
    rw [d0, a0]
    refine k_MM_colonOf_11 hO (i32s (by omega) (by omega)) (i32s (by omega) (by omega)) (i32s (by omega) (by omega)) (i32s (by omega) (by omega)) ⟨fun _ => ⟨hK, ?_⟩, fun z => absurd rfl z⟩
    rw [show ((m + t : Nat) : Int) + 1 = ((q : Nat) : Int) by first | rfl | omega]
    refine (s_MM_word1 (d := d) hO h hq).mono (fun x M1 h1 => ?_)
    obtain ⟨e1, hx⟩ := h1
    subst e1
    rw [h33] at hx
    refine ⟨i32s (by omega) (by omega), hO, fun v hv => ?_⟩
    rw [if_neg (by omega), if_neg (by omega)] at hv
    refine ⟨fun _ => i32s (by omega) (by omega), fun u hu => ⟨i32s (by omega) (by omega), fun s hs => ?_⟩⟩
    rw [if_pos ⟨hx, hv, rfl⟩] at hu
    subst hu hv
    rw [if_pos (by omega), if_neg (by omega), if_pos hx] at hs
    exact k_MM_colonOf_11 hO (i32s (by omega) (by omega)) (i32s (by omega) (by omega)) (i32s (by omega) (by omega)) (i32s (by omega) (by omega)) ⟨fun z => by omega, fun _ => ⟨rfl, rfl⟩⟩
  | succ c ih =>
    intro t ht
    have nx := ih (t + 1) (by omega)
    have db := dp_b (w := wk M a) (i := m + 1) t
    have ab := aq_b (w := wk M a) (i := m + 1) t
    have bp := hb.2.2.1 t (by omega)
    have bw := (hb.2.2.2 t (by omega)).2
    refine k_MM_colonOf_11 hO (i32s (by omega) (by omega)) (i32s (by omega) (by omega)) (i32s (by omega) (by omega)) (i32s (by omega) (by omega)) ⟨fun _ => ⟨hK, ?_⟩, fun z => absurd rfl z⟩
    rw [show ((m + t : Nat) : Int) + 1 = ((m + 1 + t : Nat) : Int) by first | rfl | omega]
    refine (s_MM_word1 (d := d) hO h (by omega)).mono (fun x M1 h1 => ?_)
    obtain ⟨e1, hx⟩ := h1
    subst e1
    refine ⟨by rw [hx]; exact wk32 hO, hO, fun v hv => ?_⟩
    have hv' : v = dp (wk M1 a) (m + 1) (t + 1) := by
      rw [dp_s, ← hx]
      split at hv <;> (try split at hv) <;> (try split) <;> (try split) <;> omega
    have db1 := dp_b (w := wk M1 a) (i := m + 1) (t + 1)
    refine ⟨fun _ => i32s (by omega) (by omega), fun u hu => ⟨i32s (by omega) (by omega), fun s hs => ?_⟩⟩
    have hu0 : u = 0 := by
      by_cases z : x = 33 ∧ (v = 0 ∧ aq (wk M1 a) (m + 1) t = 0)
      · exfalso
        obtain ⟨z1, z2, z3⟩ := z
        rw [if_neg (by omega), if_neg (by omega)] at hv
        exact bw (by omega) z3 (by rw [← hx]; exact z1)
      · rw [if_neg z] at hu; exact hu
    have hs' : s = aq (wk M1 a) (m + 1) (t + 1) := by
      rw [aq_s, ← hx]
      by_cases z1 : x = 36
      · rw [if_pos z1] at hv
        rw [if_neg (by omega)] at hs
        rw [hs]
        split
        · rfl
        · rw [if_neg (by omega), if_neg (by omega)]; omega
      · rw [if_neg z1] at hv
        by_cases z2 : x = 37
        · rw [if_pos z2] at hv
          have e : s = aq (wk M1 a) (m + 1) t := by split at hs <;> (try split at hs) <;> (try split at hs) <;> omega
          rw [e]
          split
          · rfl
          · rw [if_neg (by omega), if_neg (by omega)]; omega
        · rw [if_neg z2] at hv
          by_cases z3 : 0 < dp (wk M1 a) (m + 1) t
          · rw [if_pos z3]
            rw [if_neg (by omega)] at hs
            exact hs
          · rw [if_neg z3]
            rw [if_pos (by omega)] at hs
            rw [hs]
            split <;> (try split) <;> omega
    rw [hu0, hv', hs']
    rw [show ((m + 1 + t : Nat) : Int) = ((m + (t + 1) : Nat) : Int) by first | rfl | omega]
    exact nx
end SR
end
section
/-! The reference: searches on, numbers, and a new node. -/
section NO
variable {G : mG} {d a N : Nat} {M : mM}
theorem s_MM_until {i j : Nat} {s : Int} (hs : i32 s) (hO : mOk M) (h : Wn M a N) (hij : i ≤ j) (hj : j < N) (h1 : wk M a j = s) (h2 : dp (wk M a) i (j - i) ≤ 0) (h3 : aq (wk M a) i (j - i) ≤ 0) (h4 : ∀ t, t < j - i → ¬ (wk M a (i + t) = s ∧ dp (wk M a) i t ≤ 0 ∧ aq (wk M a) i t ≤ 0)) : Ci G y_MM_until (d + 2) [vr a, vi i, vi s] M (fun x M' => M' = M ∧ x = j) := by
  have hK := h.1.1.1
  have hN := h.2.2
  refine k_MM_until hO (i32s (by omega) (by omega)) hs ?_
  suffices H : ∀ (c t : Nat), t + c = j - i → h_MM_until_8 G (d + 1) a s (dp (wk M a) i t) (aq (wk M a) i t) (i + t : Nat) M (fun x M' => M' = M ∧ x = j) from
    H (j - i) 0 (by omega)
  intro c
  induction c with
  | zero =>
    intro t ht
    have et : t = j - i := by omega
    subst et
    have db := dp_b (w := wk M a) (i := i) (j - i)
    have ab := aq_b (w := wk M a) (i := i) (j - i)
    rw [show i + (j - i) = j by first | rfl | omega]
    refine k_MM_until_8 hO hs (i32s (by omega) (by omega)) (i32s (by omega) (by omega)) (i32s (by omega) (by omega)) ⟨hK, (s_MM_word1 (d := d) hO h hj).mono (fun x M1 e1 => ?_)⟩
    obtain ⟨e1, hx⟩ := e1
    subst e1
    exact ⟨by rw [hx]; exact wk32 hO, hO, fun q => by omega, fun _ => ⟨rfl, rfl⟩⟩
  | succ c ih =>
    intro t ht
    have nx := ih (t + 1) (by omega)
    have db := dp_b (w := wk M a) (i := i) t
    have ab := aq_b (w := wk M a) (i := i) t
    have h4t := h4 t (by omega)
    refine k_MM_until_8 hO hs (i32s (by omega) (by omega)) (i32s (by omega) (by omega)) (i32s (by omega) (by omega)) ⟨hK, (s_MM_word1 (d := d) hO h (by omega)).mono (fun x M1 e1 => ?_)⟩
    obtain ⟨e1, hx⟩ := e1
    subst e1
    refine ⟨by rw [hx]; exact wk32 hO, hO, fun _ => ⟨hK, (s_MM_word1 (d := d) hO h (by omega)).mono (fun y M2 e2 => ?_)⟩, fun q => absurd ⟨by omega, by omega, by omega⟩ h4t⟩
    obtain ⟨e2, hy⟩ := e2
    subst e2
    refine ⟨by rw [hy]; exact wk32 hO, hO, fun v hv => ?_⟩
    have hv' : v = dp (wk M2 a) i (t + 1) := by
      rw [dp_s, ← hy]
      split at hv <;> (try split at hv) <;> (try split) <;> (try split) <;> omega
    have db1 := dp_b (w := wk M2 a) (i := i) (t + 1)
    refine ⟨i32s (by omega) (by omega), fun s' hs' => ?_⟩
    have hs2 : s' = aq (wk M2 a) i (t + 1) := by
      rw [aq_s, ← hy]
      by_cases z1 : y = 36
      · rw [if_pos z1] at hv
        have e : s' = aq (wk M2 a) i t := by split at hs' <;> (try split at hs') <;> (try split at hs') <;> omega
        rw [e]
        split
        · rfl
        · rw [if_neg (by omega), if_neg (by omega)]; omega
      · rw [if_neg z1] at hv
        by_cases z2 : y = 37
        · rw [if_pos z2] at hv
          have e : s' = aq (wk M2 a) i t := by split at hs' <;> (try split at hs') <;> (try split at hs') <;> omega
          rw [e]
          split
          · rfl
          · rw [if_neg (by omega), if_neg (by omega)]; omega
        · rw [if_neg z2] at hv
          by_cases z3 : 0 < dp (wk M2 a) i t
          · rw [if_pos z3]
            rw [if_neg (by omega)] at hs'
            exact hs'
          · rw [if_neg z3]
            rw [if_pos (by omega)] at hs'
            rw [hs']
            split <;> (try split) <;> omega
    rw [hv', hs2, show ((i + t : Nat) : Int) + 1 = ((i + (t + 1) : Nat) : Int) by first | rfl | omega]
    exact nx
theorem s_MM_closeOf {k e : Nat} (hO : mOk M) (h : Wn M a N) (hk : k < e) (he : e < N) (h1 : ∀ t, 1 ≤ t → t ≤ e - k → 0 < dp (wk M a) k t) (h2 : dp (wk M a) k (e - k + 1) ≤ 0) : Ci G y_MM_closeOf (d + 2) [vr a, vi k] M (fun x M' => M' = M ∧ x = e) := by
  have hK := h.1.1.1
  have hN := h.2.2
  refine k_MM_closeOf hO (i32s (by omega) (by omega)) ?_
  suffices H : ∀ (c t : Nat), t + c = e - k → h_MM_closeOf_4 G (d + 1) a (dp (wk M a) k t) (k + t : Nat) M (fun x M' => M' = M ∧ x = e) from
    H (e - k) 0 (by omega)
  intro c
  induction c with
  | zero =>
    intro t ht
    have et : t = e - k := by omega
    subst et
    have db := dp_b (w := wk M a) (i := k) (e - k)
    have hp := h1 (e - k) (by omega) (by omega)
    rw [dp_s, show k + (e - k) = e by first | rfl | omega] at h2
    rw [show k + (e - k) = e by first | rfl | omega]
    refine k_MM_closeOf_4 hO (i32s (by omega) (by omega)) (i32s (by omega) (by omega)) ⟨hK, (s_MM_word1 (d := d) hO h he).mono (fun x M1 e1 => ?_)⟩
    obtain ⟨e1, hx⟩ := e1
    subst e1
    refine ⟨by rw [hx]; exact wk32 hO, hO, fun q => ?_, fun q => ⟨hK, (s_MM_word1 (d := d) hO h he).mono (fun y M2 e2 => ?_)⟩⟩
    · rw [if_pos (by omega)] at h2
      omega
    · obtain ⟨e2, hy⟩ := e2
      subst e2
      rw [if_neg (by omega)] at h2
      refine ⟨by rw [hy]; exact wk32 hO, hO, fun v hv => ⟨i32s (by split at hv <;> omega) (by split at hv <;> omega), fun z => ?_, fun z => ⟨rfl, by omega⟩⟩⟩
      split at hv <;> split at h2 <;> omega
  | succ c ih =>
    intro t ht
    have nx := ih (t + 1) (by omega)
    have db := dp_b (w := wk M a) (i := k) t
    have hp := h1 (t + 1) (by omega) (by omega)
    rw [show ((k + (t + 1) : Nat) : Int) = ((k + t : Nat) : Int) + 1 by first | rfl | omega] at nx
    have hd : dp (wk M a) k (t + 1) = dp (wk M a) k t + (if wk M a (k + t) = 36 then 1 else if wk M a (k + t) = 37 then -1 else 0) := dp_s
    refine k_MM_closeOf_4 hO (i32s (by omega) (by omega)) (i32s (by omega) (by omega)) ⟨hK, (s_MM_word1 (d := d) hO h (by omega)).mono (fun x M1 e1 => ?_)⟩
    obtain ⟨e1, hx⟩ := e1
    subst e1
    refine ⟨by rw [hx]; exact wk32 hO, hO, fun q => ?_, fun q => ⟨hK, (s_MM_word1 (d := d) hO h (by omega)).mono (fun y M2 e2 => ?_)⟩⟩
    · rw [if_pos (by omega)] at hd
      rw [hd] at nx hp
      exact ⟨i32s (by omega) (by omega), fun _ => nx, fun z => by omega⟩
    · obtain ⟨e2, hy⟩ := e2
      subst e2
      rw [if_neg (by omega)] at hd
      refine ⟨by rw [hy]; exact wk32 hO, hO, fun v hv => ?_⟩
      have hv' : v = dp (wk M2 a) k (t + 1) := by rw [hd]; split at hv <;> split <;> omega
      rw [hv']
      have db1 := dp_b (w := wk M2 a) (i := k) (t + 1)
      exact ⟨i32s (by omega) (by omega), fun _ => nx, fun z => by omega⟩
theorem n7 : a + 7 ∈ nums a := nums_o (by decide)
theorem n9 : a + 9 ∈ nums a := nums_o (by decide)
/-- N whole words are there -/
def Wx (M : mM) (a N : Nat) : Prop := Wn M a N ∧ ln M (a + 7) = N ∧ ln M (a + 9) = N ∧ (∀ k, k < N → wok M a (nt M (a + 5) k) (nt M (a + 7) k) (nt M (a + 9) k)) ∧ ln M (mR M a 2) ≤ 16384
theorem s_MM_place0 {k : Nat} (hO : mOk M) (h : Wx M a N) (hk : k < N) : Ci G y_MM_place0 (d + 1) [vr a, vi k] M (fun x M' => M' = M ∧ x = nt M (a + 7) k) := by
  obtain ⟨⟨w, l, b⟩, l7, l9, wo, -⟩ := h
  refine k_MM_place0 hO (i32s (by omega) (by omega)) ?_
  rw [w.1.2.2.1.2.1]
  refine ⟨w.1.1, (w.nu n7).1, (s_MN_at hO (w.nu n7) (by omega)).mono (fun x M1 h1 => ?_)⟩
  obtain ⟨e1, hx⟩ := h1
  subst e1
  exact ⟨by rw [hx]; exact (hO _ _).1, hO, rfl, hx⟩
theorem ten_pow_le {n m : Nat} (h : n ≤ m) : (10 : Int) ^ n ≤ 10 ^ m := by
  obtain ⟨c, rfl⟩ := Nat.le.dest h
  rw [Int.pow_add]
  have h1 : (0 : Int) < 10 ^ n := Int.pow_pos (by omega)
  have h2 : (0 : Int) < 10 ^ c := Int.pow_pos (by omega)
  have := Int.mul_le_mul_of_nonneg_left (a := 1) (b := 10 ^ c) (c := 10 ^ n) (by omega) (by omega)
  omega
end NO
end
section
/-! The reference: nodes of trees. -/
section ND
variable {G : mG} {d a N : Nat} {M M1 : mM}
theorem Wd.gp (h : Wd M a) {g : Nat} (hg : g = a + 13 ∨ g = a + 49) : Gp M g := by
  have k := h.1.2.2.2.2.2.2.2.2.2.2
  rcases hg with w | w <;> rw [w]
  · exact k.1
  · exact k.2
/-- the lists of a game that hold its trees -/
abbrev tL (g : Nat) : Nat → Prop := fun x => x = g + 1 ∨ x = g + 3 ∨ x = g + 5 ∨ x = g + 7 ∨ x = g + 9 ∨ x = g + 11
theorem tL_in {g q : Nat} (hg : g = a + 13 ∨ g = a + 49) (h : tL g q) : q ∈ nums a := by
  rcases hg with w | w <;> subst w <;> rcases h with h | h | h | h | h | h <;> subst h
  · exact nums_o (a := a) (o := 14) (by decide)
  · exact nums_o (a := a) (o := 16) (by decide)
  · exact nums_o (a := a) (o := 18) (by decide)
  · exact nums_o (a := a) (o := 20) (by decide)
  · exact nums_o (a := a) (o := 22) (by decide)
  · exact nums_o (a := a) (o := 24) (by decide)
  · exact nums_o (a := a) (o := 50) (by decide)
  · exact nums_o (a := a) (o := 52) (by decide)
  · exact nums_o (a := a) (o := 54) (by decide)
  · exact nums_o (a := a) (o := 56) (by decide)
  · exact nums_o (a := a) (o := 58) (by decide)
  · exact nums_o (a := a) (o := 60) (by decide)
/-- one number of a list is written anew -/
theorem mv_el {p j : Nat} {v : Int} (hv : i32 v) (hO : mOk M) (h : Wd M a) (hp : p ∈ nums a) (e : M1 = mUI M (mR M p 0) j v) : Mv (fun x => x = p) (fun _ => False) M a M1 ∧ ln M1 p = ln M p ∧ (∀ k, nt M1 p k = if k = j then v else nt M p k) ∧ cp M1 p = cp M p := by
  have hN := h.nu hp
  obtain ⟨n1, n2, n3, n4, n5⟩ := hN
  have f : FI (fun x => x = mR M p 0) M M1 := by rw [e]; exact FI.ui rfl
  have o1 : mOk M1 := by rw [e]; exact mOk_UI hO hv
  have er : mR M1 p = mR M p := by rw [f.2.2.1]
  have hne : p ≠ mR M p 0 := fun w => by rw [← w, n1] at n2; omega
  have ip : mI M1 p = mI M p := f.2.2.2.2.2.2 p hne
  have ec : cp M1 p = cp M p := by unfold cp; rw [er, f.2.1]
  have hN1 : Nu M1 p := ⟨by rw [f.1]; exact n1, by rw [er, f.1]; exact n2, by rw [er, f.2.2.2.2.1]; exact n3, by rw [ip, ec]; exact n4, by rw [ec]; exact n5⟩
  have fn : FN (fun x => x = p) (fun _ => False) M M1 := by
    refine ⟨⟨by rw [f.2.2.2.2.1]; exact Nat.le_refl _, fun q w => by rw [w]; exact n3.1⟩, fun x _ => ⟨by rw [f.1], by rw [f.2.1]⟩, fun x _ _ => by rw [f.2.2.1], fun x _ _ w _ => ⟨f.2.2.2.2.2.2 x (fun z => w p rfl z), by rw [f.2.2.2.1]⟩, fun q w => Or.inl (by rw [f.2.2.1])⟩
  have k := h.one hp fn hN1 (by rw [ec]; exact h.bd hp) (fun q hq hne => ⟨fun w => w, fun w => w⟩)
  refine ⟨⟨o1, k.1, RmL.fi f, fn, fun q hq hne => k.2 q hq hne⟩, by unfold ln; rw [ip], fun i => ?_, ec⟩
  unfold nt
  rw [er, e, mI_UI]
  by_cases z : i = j
  · rw [if_pos ⟨rfl, z⟩, if_pos z]
  · rw [if_neg (fun w => z w.2), if_neg z]
/-- T nodes -/
def nd (M : mM) (g T : Nat) : Prop := ∀ q, tL g q → ln M q = T
abbrev so (M : mM) (g : Nat) : Nat → Int := nt M (g + 1)
abbrev va (M : mM) (g : Nat) : Nat → Int := nt M (g + 7)
abbrev fp (M : mM) (g : Nat) : Nat → Int := nt M (g + 9)
abbrev np (M : mM) (g : Nat) : Nat → Int := nt M (g + 11)
theorem Mv.lst {P S : Nat → Prop} (h : Mv P S M a M1) {q : Nat} (hq : q ∈ nums a) (hp : ¬ P q) : sameN M M1 q := h.2.2.2.2 q hq hp
theorem Wx.mv {P S : Nat → Prop} (h : Wx M a N) (m : Mv P S M a M1) (hP : ∀ q, P q → q ∈ nums a) (h5 : ¬ P (a + 5)) (h7 : ¬ P (a + 7)) (h9 : ¬ P (a + 9)) (ht : ¬ P (mR M a 2)) : Wx M1 a N := by
  obtain ⟨⟨w, l, b⟩, l7, l9, wo, hT⟩ := h
  have s5 := m.lst n5 h5
  have s7 := m.lst n7 h7
  have s9 := m.lst n9 h9
  have st := m.lst w.tape.2.1 ht
  have r := m.rfl_a w hP
  refine ⟨⟨m.2.1, by rw [s5.1]; exact l, b⟩, by rw [s7.1]; exact l7, by rw [s9.1]; exact l9, fun k hk => ?_, by rw [r, st.1]; exact hT⟩
  rw [s5.2.1, s7.2.1, s9.2.1]
  exact (wo k hk).same r st
theorem tL_no {g : Nat} (hg : g = a + 13 ∨ g = a + 49) (h : Wd M a) : ¬ tL g (a + 5) ∧ ¬ tL g (a + 7) ∧ ¬ tL g (a + 9) ∧ ¬ tL g (mR M a 2) ∧ ¬ tL g (a + 91) := by
  have h1 := h.1.2.1
  refine ⟨by omega, by omega, by omega, ?_, by omega⟩
  rcases h1 with w | w <;> rw [w.2] <;> omega
end ND
end
section
/-! The reference: jobs, and joining a part to its parent. -/
section JO
variable {G : mG} {d a N g T : Nat} {M M2 : mM}
theorem n91 : a + 91 ∈ nums a := nums_o (by decide)
/-- the lists that tree changes -/
abbrev trP (a g : Nat) : Nat → Prop := fun x => tL g x ∨ x = a + 91
theorem trP_in {q : Nat} (hg : g = a + 13 ∨ g = a + 49) (h : trP a g q) : q ∈ nums a := by
  rcases h with h | h
  · exact tL_in hg h
  · rw [h]; exact n91
theorem trP_lt {M3 : mM} (hg : g = a + 13 ∨ g = a + 49) (w : Wd M3 a) : ∀ q, trP a g q → q < mZ M3 := fun q hq => w.lt (trP_in hg hq)
/-- while a tree is made: T nodes, jobs st -/
def TI (M : mM) (a g N T : Nat) (st : List Int) (M2 : mM) : Prop := Mv (trP a g) (fun _ => False) M a M2 ∧ Wx M2 a N ∧ mR M2 a 10 = g ∧ nd M2 g T ∧ St M2 (a + 91) st ∧ (g = a + 13 ∨ g = a + 49)
theorem TI.wx {st : List Int} {M3 : mM} {P : Nat → Prop} (h : TI M a g N T st M2) (m : Mv P (fun _ => False) M2 a M3) (hP : ∀ q, P q → trP a g q) : Mv (trP a g) (fun _ => False) M a M3 ∧ Wx M3 a N ∧ mR M3 a 10 = g := by
  obtain ⟨h1, h2, h3, h4, h5, hg⟩ := h
  have w := h2.1.1
  have no := tL_no hg w
  have hin : ∀ q, P q → q ∈ nums a := fun q hq => trP_in hg (hP q hq)
  refine ⟨h1.trans (m.mono hP (fun x hx => hx) (trP_lt hg w)), h2.mv m hin (fun q => ?_) (fun q => ?_) (fun q => ?_) (fun q => ?_), by rw [m.rfl_a w hin]; exact h3⟩
  · rcases hP _ q with z | z
    · exact no.1 z
    · omega
  · rcases hP _ q with z | z
    · exact no.2.1 z
    · omega
  · rcases hP _ q with z | z
    · exact no.2.2.1 z
    · omega
  · rcases hP _ q with z | z
    · exact no.2.2.2.1 z
    · rcases w.1.2.1 with y | y <;> rw [y.2] at z <;> omega
/-- from x on, the last brother is l -/
def Lk (M : mM) (g T : Nat) : Nat → Nat → Nat → Prop
  | 0, _, _ => False
  | f + 1, x, l => x < T ∧ ((x = l ∧ np M g x = -1) ∨ ∃ y : Nat, np M g x = y ∧ Lk M g T f y l)
theorem Lk.lt {f x l : Nat} (h : Lk M g T f x l) : l < T := by
  induction f generalizing x with
  | zero => exact h.elim
  | succ f ih =>
    obtain ⟨h1, h2⟩ := h
    rcases h2 with ⟨h2, -⟩ | ⟨y, -, h3⟩
    · omega
    · exact ih h3
/-- x has become a part of p -/
def jnQ (M2 : mM) (g T : Nat) (p : Int) (x : Nat) (M3 : mM) : Prop := (∀ n, so M3 g n = so M2 g n ∧ va M3 g n = va M2 g n) ∧ ((p < 0 ∧ ∀ n, fp M3 g n = fp M2 g n ∧ np M3 g n = np M2 g n) ∨ (0 ≤ p ∧ fp M2 g p.toNat = -1 ∧ (∀ n, fp M3 g n = if n = p.toNat then (x : Int) else fp M2 g n) ∧ ∀ n, np M3 g n = np M2 g n) ∨ (0 ≤ p ∧ ∃ f c l : Nat, fp M2 g p.toNat = c ∧ Lk M2 g T f c l ∧ (∀ n, fp M3 g n = fp M2 g n) ∧ ∀ n, np M3 g n = if n = l then (x : Int) else np M2 g n))
end JO
end
section
/-! The reference: the parts of a list. -/
section LI
variable {w : Nat → Int}
/-- x stands nowhere outside parentheses -/
def Nx (w : Nat → Int) (x : Int) (i l : Nat) : Prop := ∀ m, m < l → dp w i m = 0 → w (i + m) ≠ x
theorem Nx.join {x : Int} {i a b : Nat} (b1 : dp w i a = 0) (h1 : Nx w x i a) (h2 : Nx w x (i + a + 1) b) (h36 : w (i + a) ≠ 36) (h37 : w (i + a) ≠ 37) (hx : w (i + a) ≠ x) : Nx w x i (a + 1 + b) := by
  have d1 : dp w i (a + 1) = 0 := by rw [dp_s, if_neg h36, if_neg h37, b1]; omega
  have e : i + (a + 1) = i + a + 1 := by omega
  intro m hm q
  by_cases z : m < a
  · exact h1 m z q
  · by_cases y : m = a
    · rw [y]; exact hx
    · have k := h2 (m - (a + 1)) (by omega)
      rw [show i + a + 1 + (m - (a + 1)) = i + m by first | rfl | omega] at k
      refine k ?_
      rw [show m = (a + 1) + (m - (a + 1)) by first | rfl | omega, dp_app, d1, e] at q
      omega
theorem Nx.mid {x : Int} {i m j : Nat} (b1 : Bl w i (m - i)) (hm : i < m) (hj : m + 1 < j) (h1 : Nx w x i (m - i)) (h2 : Nx w x (m + 1) (j - (m + 1))) (h36 : w m ≠ 36) (h37 : w m ≠ 37) (hx : w m ≠ x) : Nx w x i (j - i) := by
  have em : i + (m - i) = m := by omega
  rw [show j - i = (m - i) + 1 + (j - (m + 1)) by first | rfl | omega]
  exact Nx.join b1.1 h1 (by rw [em]; exact h2) (by rw [em]; exact h36) (by rw [em]; exact h37) (by rw [em]; exact hx)
theorem ex_nc : ∀ {n c i j : Nat}, c ≤ 6 → Ex w n c i j → Nx w 35 i (j - i) := by
  intro n
  induction n with
  | zero => intro c i j _ h; exact h.elim
  | succ n ih =>
    intro c i j hc h
    have mid : ∀ {c1 c2 i m j : Nat}, c1 ≤ 6 → c2 ≤ 6 → Ex w n c1 i m → Ex w n c2 (m + 1) j → w m ≠ 36 → w m ≠ 37 → w m ≠ 35 → Nx w 35 i (j - i) := fun k1 k2 e1 e2 a1 a2 a3 => Nx.mid (ex_pr e1).2.2.2.2.1 (ex_pr e1).1 (ex_pr e2).1 (ih k1 e1) (ih k2 e2) a1 a2 a3
    rw [Ex] at h
    by_cases c0 : c = 0
    · rw [if_pos c0] at h
      rcases h with ⟨h1, h2⟩ | ⟨h1, h2⟩ | ⟨h1, h2, h3⟩ | ⟨h1, h2, h3, h4⟩
      · intro m hm _
        rw [show m = 0 by first | rfl | omega, show i + 0 = i by first | rfl | omega]; omega
      · have p := ex_pr h2
        have k := Nx.join (w := w) (x := 35) (i := i) (a := 0) (b := j - (i + 1)) rfl (fun m hm => by omega) (by rw [show i + 0 + 1 = i + 1 by first | rfl | omega]; exact ih (by omega) h2) (by rw [show i + 0 = i by first | rfl | omega]; omega) (by rw [show i + 0 = i by first | rfl | omega]; omega) (by rw [show i + 0 = i by first | rfl | omega]; omega)
        have := p.1
        rw [show 0 + 1 + (j - (i + 1)) = j - i by first | rfl | omega] at k
        exact k
      · have p := ex_pr h3
        have hj := p.1
        obtain ⟨b, dd⟩ := p.2.2.2.2.1.paren h1 (by rw [show i + 1 + (j - 1 - (i + 1)) = j - 1 by first | rfl | omega]; exact h2)
        intro m hm q
        by_cases z : m = 0
        · rw [z, show i + 0 = i by first | rfl | omega]; omega
        · have := dd m (by omega) (by omega)
          omega
      · have p := ex_pr h4
        have hj := p.1
        obtain ⟨b, dd⟩ := Bl.paren (w := w) (i := i + 1) (b := j - 1 - (i + 2)) (by rw [show i + 1 + 1 = i + 2 by first | rfl | omega]; exact p.2.2.2.2.1) h2 (by rw [show i + 1 + 1 + (j - 1 - (i + 2)) = j - 1 by first | rfl | omega]; exact h3)
        have d1 : dp w i 1 = 0 := by rw [dp_s]; show (0 : Int) + _ = 0; rw [show i + 0 = i by first | rfl | omega, if_neg (by omega), if_neg (by omega)]; omega
        intro m hm q
        by_cases z : m = 0
        · rw [z, show i + 0 = i by first | rfl | omega]; omega
        · by_cases y : m = 1
          · rw [y, h2]; omega
          · rw [show m = 1 + (m - 1) by first | rfl | omega, dp_app, d1] at q
            have := dd (m - 1) (by omega) (by omega)
            omega
    rw [if_neg c0] at h
    by_cases c1 : c = 1
    · rw [if_pos c1] at h
      rcases h with h | ⟨m, h1, h2, h3⟩
      · exact ih (by omega) h
      · exact mid (by omega) (by omega) h2 h3 (by omega) (by omega) (by omega)
    rw [if_neg c1] at h
    by_cases c2 : c = 2
    · rw [if_pos c2] at h
      rcases h with h | ⟨m, h1, h2, h3⟩
      · exact ih (by omega) h
      · exact mid (by omega) (by omega) h2 h3 (by omega) (by omega) (by omega)
    rw [if_neg c2] at h
    by_cases c3 : c = 3
    · rw [if_pos c3] at h
      rcases h with h | ⟨m, h1, h2, h3⟩ | ⟨h1, h2⟩
      · exact ih (by omega) h
      · exact mid (by omega) (by omega) h2 h3 (by omega) (by omega) (by omega)
      · have p := ex_pr h2
        have k := Nx.join (w := w) (x := 35) (i := i) (a := 0) (b := j - (i + 1)) rfl (fun m hm => by omega) (by rw [show i + 0 + 1 = i + 1 by first | rfl | omega]; exact ih (by omega) h2) (by rw [show i + 0 = i by first | rfl | omega]; omega) (by rw [show i + 0 = i by first | rfl | omega]; omega) (by rw [show i + 0 = i by first | rfl | omega]; omega)
        have := p.1
        rw [show 0 + 1 + (j - (i + 1)) = j - i by first | rfl | omega] at k
        exact k
    rw [if_neg c3] at h
    by_cases c4 : c = 4
    · rw [if_pos c4] at h
      rcases h with h | ⟨m, h1, h2, h3⟩
      · exact ih (by omega) h
      · exact mid (by omega) (by omega) h2 h3 (by omega) (by omega) (by omega)
    rw [if_neg c4] at h
    by_cases c5 : c = 5
    · rw [if_pos c5] at h
      rcases h with h | ⟨m, h1, h2, h3⟩
      · exact ih (by omega) h
      · exact mid (by omega) (by omega) h2 h3 (by omega) (by omega) (by omega)
    rw [if_neg c5] at h
    by_cases c6 : c = 6
    · rw [if_pos c6] at h
      rcases h with h | ⟨m, q, h1, h2, h3, h4, h5⟩
      · exact ih (by omega) h
      · have p3 := ex_pr h3
        have p4 := ex_pr h4
        have p5 := ex_pr h5
        have k := Nx.mid p4.2.2.2.2.1 p4.1 p5.1 (ih (by omega) h4) (ih (by omega) h5) (by omega) (by omega) (by omega)
        exact Nx.mid p3.2.2.2.2.1 p3.1 (by have := p4.1; have := p5.1; omega) (ih (by omega) h3) k (by omega) (by omega) (by omega)
    · omega
/-- the jobs for a list's parts, the first on top -/
def JL (w : Nat → Int) (p : Int) : Nat → Nat → Nat → List Int → Prop
  | 0, _, _, _ => False
  | f + 1, i, j, s => (s = [(j : Int), (i : Int), p] ∧ Eo w 6 i j) ∨ ∃ (m : Nat) (s2 : List Int), w m = 35 ∧ Eo w 6 i m ∧ s = (m : Int) :: (i : Int) :: p :: s2 ∧ JL w p f (m + 1) j s2
theorem JL.snoc {p : Int} {j : Nat} : ∀ {f i m : Nat} {s : List Int}, JL w p f i m s → w m = 35 → Eo w 6 (m + 1) j → JL w p (f + 1) i j (s ++ [(j : Int), ((m + 1 : Nat) : Int), p])
  | 0, _, _, _, h, _, _ => h.elim
  | f + 1, i, m, s, h, hm, he => by
    rcases h with ⟨h1, h2⟩ | ⟨m', s2, h1, h2, h3, h4⟩
    · exact Or.inr ⟨m, [(j : Int), ((m + 1 : Nat) : Int), p], hm, h2, by rw [h1]; rfl, Or.inl ⟨rfl, he⟩⟩
    · exact Or.inr ⟨m', s2 ++ [(j : Int), ((m + 1 : Nat) : Int), p], h1, h2, by rw [h3]; rfl, JL.snoc h4 hm he⟩
end LI
section LJ
variable {G : mG} {d a N g T : Nat} {M : mM}
/-- same trees -/
def sameT (M2 M3 : mM) (g : Nat) : Prop := ∀ n, so M3 g n = so M2 g n ∧ va M3 g n = va M2 g n ∧ fp M3 g n = fp M2 g n ∧ np M3 g n = np M2 g n
theorem sameT.trans {M1 M2 M3 : mM} (h : sameT M1 M2 g) (k : sameT M2 M3 g) : sameT M1 M3 g := fun n => ⟨(k n).1.trans (h n).1, (k n).2.1.trans (h n).2.1, (k n).2.2.1.trans (h n).2.2.1, (k n).2.2.2.trans (h n).2.2.2⟩
theorem TI.wk {st : List Int} {M2 : mM} (h : TI M a g N T st M2) (hw : Wd M a) : wk M2 a = wk M a := by
  funext k
  exact (h.1.lst n5 (fun q => by
    rcases q with q | q
    · exact (tL_no h.2.2.2.2.2 hw).1 q
    · omega)).2.1 k
end LJ
end
section
/-! The reference: what a tree is. -/
/-- how many parts a node has -/
def ari (s : Int) (k : Nat) : Prop := ((s = 31 ∨ s = 45) ∧ k = 1) ∨ ((18 ≤ s ∧ s ≤ 30) ∧ k = 2) ∨ (s = 32 ∧ k = 3) ∨ (s = 14 ∨ s = 15)
/-- a name as it is read: its word -/
def nmw (w : Nat → Int) (N : Nat) (v : Int) : Prop := 0 ≤ v ∧ v < N ∧ w v.toNat = 1
/-- md 0: nodes n to e - 1 are a tree; md k: they are k trees, brothers -/
def Tn (nm : Int → Prop) (M : mM) (g : Nat) : Nat → Nat → Nat → Nat → Prop
  | 0, _, _, _ => False
  | f + 1, md, n, e => if md = 0 then n < e ∧ ((e = n + 1 ∧ fp M g n = -1 ∧ (so M g n = 1 ∨ so M g n = 2 ∨ so M g n = 12 ∨ so M g n = 13) ∧ (so M g n = 2 → 0 ≤ va M g n ∧ va M g n < 1000000000) ∧ (so M g n = 1 → nm (va M g n))) ∨ ∃ k, 1 ≤ k ∧ ari (so M g n) k ∧ fp M g n = ((n + 1 : Nat) : Int) ∧ Tn nm M g f k (n + 1) e)
    else if md = 1 then np M g n = -1 ∧ Tn nm M g f 0 n e else ∃ m : Nat, np M g n = (m : Int) ∧ Tn nm M g f 0 n m ∧ Tn nm M g f (md - 1) m e
section TR
variable {nm : Int → Prop} {g : Nat} {M M' : mM}
theorem Tn.lt : ∀ {f md n e : Nat}, Tn nm M g f md n e → n < e := by
  intro f
  induction f with
  | zero => intro md n e h; exact h.elim
  | succ f ih =>
    intro md n e h
    rw [Tn] at h
    by_cases c0 : md = 0
    · rw [if_pos c0] at h; exact h.1
    · rw [if_neg c0] at h
      by_cases c1 : md = 1
      · rw [if_pos c1] at h; exact ih h.2
      · rw [if_neg c1] at h
        obtain ⟨m, -, h2, h3⟩ := h
        have := ih h2
        have := ih h3
        omega
theorem Tn.fr : ∀ {f md n e : Nat}, Tn nm M g f md n e → (∀ k, n ≤ k → k < e → so M' g k = so M g k ∧ va M' g k = va M g k ∧ fp M' g k = fp M g k) → (∀ k, n < k → k < e → np M' g k = np M g k) → (md ≠ 0 → np M' g n = np M g n) → Tn nm M' g f md n e := by
  intro f
  induction f with
  | zero => intro md n e h; exact h.elim
  | succ f ih =>
    intro md n e h h1 h2 h3
    have hlt := h.lt
    rw [Tn] at h ⊢
    by_cases c0 : md = 0
    · rw [if_pos c0] at h ⊢
      have k := h1 n (Nat.le_refl _) hlt
      rw [k.1, k.2.1, k.2.2]
      refine ⟨h.1, ?_⟩
      rcases h.2 with q | ⟨k', q1, q2, q3, q4⟩
      · exact Or.inl q
      · have := q4.lt
        exact Or.inr ⟨k', q1, q2, q3, ih q4 (fun x a b => h1 x (by omega) b) (fun x a b => h2 x (by omega) b) (fun _ => h2 (n + 1) (by omega) this)⟩
    · rw [if_neg c0] at h ⊢
      by_cases c1 : md = 1
      · rw [if_pos c1] at h ⊢
        exact ⟨by rw [h3 c0]; exact h.1, ih h.2 h1 h2 (fun z => absurd rfl z)⟩
      · rw [if_neg c1] at h ⊢
        obtain ⟨m, q1, q2, q3⟩ := h
        have l1 := q2.lt
        have l2 := q3.lt
        exact ⟨m, by rw [h3 c0]; exact q1, ih q2 (fun x a b => h1 x a (by omega)) (fun x a b => h2 x a (by omega)) (fun z => absurd rfl z), ih q3 (fun x a b => h1 x (by omega) b) (fun x a b => h2 x (by omega) b) (fun _ => h2 m l1 l2)⟩
theorem Tn.up : ∀ {f md n e : Nat}, Tn nm M g f md n e → Tn nm M g (f + 1) md n e := by
  intro f
  induction f with
  | zero => intro md n e h; exact h.elim
  | succ f ih =>
    intro md n e h
    rw [Tn] at h ⊢
    by_cases c0 : md = 0
    · rw [if_pos c0] at h ⊢
      refine ⟨h.1, ?_⟩
      rcases h.2 with q | ⟨k', q1, q2, q3, q4⟩
      · exact Or.inl q
      · exact Or.inr ⟨k', q1, q2, q3, ih q4⟩
    · rw [if_neg c0] at h ⊢
      by_cases c1 : md = 1
      · rw [if_pos c1] at h ⊢
        exact ⟨h.1, ih h.2⟩
      · rw [if_neg c1] at h ⊢
        obtain ⟨m, q1, q2, q3⟩ := h
        exact ⟨m, q1, ih q2, ih q3⟩
theorem Tn.add {f md n e : Nat} (h : Tn nm M g f md n e) : ∀ k, Tn nm M g (f + k) md n e
  | 0 => h
  | k + 1 => (Tn.add h k).up
/-- a tree; k brothers -/
def To (nm : Int → Prop) (M : mM) (g md n e : Nat) : Prop := ∃ f, Tn nm M g f md n e
theorem To.one {n e : Nat} (h : To nm M g 0 n e) (hp : np M g n = -1) : To nm M g 1 n e := by
  obtain ⟨f, h⟩ := h
  exact ⟨f + 1, by rw [Tn, if_neg (by omega), if_pos rfl]; exact ⟨hp, h⟩⟩
theorem To.cons {k n m e : Nat} (hk : 1 ≤ k) (h : To nm M g 0 n m) (hp : np M g n = (m : Int)) (h2 : To nm M g k m e) : To nm M g (k + 1) n e := by
  obtain ⟨f, h⟩ := h
  obtain ⟨f2, h2⟩ := h2
  refine ⟨f + f2 + 1, ?_⟩
  rw [Tn, if_neg (by omega), if_neg (by omega)]
  refine ⟨m, hp, h.add f2, ?_⟩
  have := h2.add f
  rw [Nat.add_comm f2 f] at this
  rw [show k + 1 - 1 = k by first | rfl | omega]
  exact this
theorem To.node {k n e : Nat} (hk : 1 ≤ k) (ha : ari (so M g n) k) (hf : fp M g n = ((n + 1 : Nat) : Int)) (h : To nm M g k (n + 1) e) : To nm M g 0 n e := by
  obtain ⟨f, h⟩ := h
  have := h.lt
  exact ⟨f + 1, by rw [Tn, if_pos rfl]; exact ⟨by omega, Or.inr ⟨k, hk, ha, hf, h⟩⟩⟩
theorem To.leaf {n : Nat} (hf : fp M g n = -1) (hs : so M g n = 1 ∨ so M g n = 2 ∨ so M g n = 12 ∨ so M g n = 13) (h2 : so M g n = 2 → 0 ≤ va M g n ∧ va M g n < 1000000000) (h1 : so M g n = 1 → nm (va M g n)) : To nm M g 0 n (n + 1) :=
  ⟨1, by rw [Tn, if_pos rfl]; exact ⟨by omega, Or.inl ⟨rfl, hf, hs, h2, h1⟩⟩⟩
theorem To.fr {md n e : Nat} (h : To nm M g md n e) (h1 : ∀ k, n ≤ k → k < e → so M' g k = so M g k ∧ va M' g k = va M g k ∧ fp M' g k = fp M g k) (h2 : ∀ k, n < k → k < e → np M' g k = np M g k) (h3 : md ≠ 0 → np M' g n = np M g n) : To nm M' g md n e := by
  obtain ⟨f, h⟩ := h
  exact ⟨f, h.fr h1 h2 h3⟩
/-- one tree has been joined to p, nothing else has changed below T -/
def JE (M2 M3 : mM) (g T : Nat) (p : Int) : Prop := (∀ n, n < T → so M3 g n = so M2 g n ∧ va M3 g n = va M2 g n) ∧ ((p < 0 ∧ ∀ n, n < T → fp M3 g n = fp M2 g n ∧ np M3 g n = np M2 g n) ∨ (0 ≤ p ∧ fp M2 g p.toNat = -1 ∧ (∀ n, n < T → fp M3 g n = if n = p.toNat then (T : Int) else fp M2 g n) ∧ ∀ n, n < T → np M3 g n = np M2 g n) ∨ (0 ≤ p ∧ ∃ f c l : Nat, fp M2 g p.toNat = c ∧ Lk M2 g T f c l ∧ (∀ n, n < T → fp M3 g n = fp M2 g n) ∧ ∀ n, n < T → np M3 g n = if n = l then (T : Int) else np M2 g n))
def chn (M : mM) (g T : Nat) (p : Int) : Prop := 0 ≤ p → fp M g p.toNat = -1 ∨ ∃ f c l : Nat, fp M g p.toNat = c ∧ Lk M g T f c l
theorem Lk.det {T f f' x l l' : Nat} (h : Lk M g T f x l) (h' : Lk M g T f' x l') : l = l' := by
  induction f generalizing x f' with
  | zero => exact h.elim
  | succ f ih =>
    cases f' with
    | zero => exact h'.elim
    | succ f' =>
      obtain ⟨-, h⟩ := h
      obtain ⟨-, h'⟩ := h'
      rcases h with ⟨h1, h2⟩ | ⟨y, h1, h2⟩ <;> rcases h' with ⟨k1, k2⟩ | ⟨y', k1, k2⟩
      · omega
      · omega
      · omega
      · have : y = y' := by omega
        subst this
        exact ih h2 k2
/-- the chain goes on to T -/
theorem Lk.ext {T T' f x l : Nat} (h : Lk M g T f x l) (hT : T < T') (hn : ∀ n, n < T → np M' g n = if n = l then (T : Int) else np M g n) (ht : np M' g T = -1) : ∃ f', Lk M' g T' f' x T := by
  induction f generalizing x with
  | zero => exact h.elim
  | succ f ih =>
    obtain ⟨h0, h⟩ := h
    have e := hn x h0
    rcases h with ⟨h1, h2⟩ | ⟨y, h1, h2⟩
    · subst h1
      rw [if_pos rfl] at e
      exact ⟨2, by omega, Or.inr ⟨T, e, hT, Or.inl ⟨rfl, ht⟩⟩⟩
    · by_cases z : x = l
      · -- the last one has no brother
        exfalso
        have hl : ∀ (f y : Nat), Lk M g T f y l → np M g l = -1 := by
          intro f
          induction f with
          | zero => intro y q; exact q.elim
          | succ f ihf =>
            intro y q
            rcases q.2 with ⟨q1, q2⟩ | ⟨y', q1, q2⟩
            · rw [← q1]; exact q2
            · exact ihf y' q2
        have := hl f y h2
        rw [z] at h1
        omega
      · rw [if_neg z] at e
        obtain ⟨f', hf'⟩ := ih h2
        exact ⟨f' + 1, by omega, Or.inr ⟨y, by rw [e]; exact h1, hf'⟩⟩
theorem JE.chain {M2 M3 : mM} {T T' : Nat} {p : Int} (h : JE M2 M3 g T p) (hp : 0 ≤ p) (hpT : p < T) (hT : T < T') (ht : np M3 g T = -1) : ∃ f c : Nat, fp M3 g p.toNat = c ∧ Lk M3 g T' f c T := by
  rcases h.2 with ⟨q, -⟩ | ⟨-, q1, q2, q3⟩ | ⟨-, f, c, l, q1, q2, q3, q4⟩
  · omega
  · refine ⟨1, T, ?_, hT, Or.inl ⟨rfl, ht⟩⟩
    rw [q2 p.toNat (by omega), if_pos rfl]
  · obtain ⟨f', hf'⟩ := q2.ext hT q4 ht
    exact ⟨f', c, by rw [q3 p.toNat (by omega)]; exact q1, hf'⟩
/-- a second tree after a first -/
theorem JE.next {M2 M3 M4 : mM} {T T3 : Nat} {p : Int} (h : JE M2 M3 g T p) (k : JE M3 M4 g T3 p) (hp : 0 ≤ p) (hpT : p < T) (hT : T < T3) (ht : np M3 g T = -1) : JE M2 M4 g T p ∧ np M4 g T = (T3 : Int) ∧ (∀ n, n < T3 → so M4 g n = so M3 g n ∧ va M4 g n = va M3 g n ∧ fp M4 g n = fp M3 g n) ∧ ∀ n, n < T3 → n ≠ T → np M4 g n = np M3 g n := by
  obtain ⟨f, c, hc1, hc2⟩ := h.chain hp hpT hT ht
  have k3 : (∀ n, n < T3 → fp M4 g n = fp M3 g n) ∧ ∀ n, n < T3 → np M4 g n = if n = T then (T3 : Int) else np M3 g n := by
    rcases k.2 with ⟨q, -⟩ | ⟨-, q1, -⟩ | ⟨-, f', c', l, q1, q2, q3, q4⟩
    · omega
    · omega
    · have e : c' = c := by omega
      subst e
      have := Lk.det q2 hc2
      subst this
      exact ⟨q3, q4⟩
  refine ⟨⟨fun n hn => ⟨(k.1 n (by omega)).1.trans (h.1 n hn).1, (k.1 n (by omega)).2.trans (h.1 n hn).2⟩, ?_⟩, by rw [k3.2 T hT, if_pos rfl], fun n hn => ⟨(k.1 n hn).1, (k.1 n hn).2, k3.1 n hn⟩, fun n hn hne => by rw [k3.2 n hn, if_neg hne]⟩
  rcases h.2 with ⟨q, -⟩ | ⟨-, q1, q2, q3⟩ | ⟨-, f', c', l, q1, q2, q3, q4⟩
  · omega
  · exact Or.inr (Or.inl ⟨hp, q1, fun n hn => by rw [k3.1 n (by omega)]; exact q2 n hn, fun n hn => by rw [k3.2 n (by omega), if_neg (by omega)]; exact q3 n hn⟩)
  · exact Or.inr (Or.inr ⟨hp, f', c', l, q1, q2, fun n hn => by rw [k3.1 n (by omega)]; exact q3 n hn, fun n hn => by rw [k3.2 n (by omega), if_neg (by omega)]; exact q4 n hn⟩)
end TR
end
section
/-! The reference: names. -/
section NA
variable {G : mG} {d a N g : Nat} {M : mM}
theorem n85 : a + 85 ∈ nums a := nums_o (by decide)
theorem n87 : a + 87 ∈ nums a := nums_o (by decide)
theorem n89 : a + 89 ∈ nums a := nums_o (by decide)
theorem s_MM_sameWord {x y : Nat} (hO : mOk M) (h : Wx M a N) (hx : x < N) (hy : y < N) : Ci G y_MM_sameWord (d + 2) [vr a, vi x, vi y] M (fun r M' => M' = M ∧ (r = 0 ∨ r = 1)) := by
  have h0 := h
  obtain ⟨⟨w, l, b⟩, l7, l9, wo, hT⟩ := h
  obtain ⟨-, ⟨x1, x2, x3⟩, -⟩ := wo x hx
  obtain ⟨-, ⟨y1, y2, y3⟩, -⟩ := wo y hy
  have hp := w.tape.2.1
  have at9 : ∀ {k : Nat} {Q : Int → mM → Prop}, k < N → (∀ z, z = nt M (a + 9) k → i32 z → Q z M) → Ci G y_MN_at (d + 1) [vr (a + 9), vi k] M Q := fun hk hQ => by
    refine (s_MN_at hO (w.nu n9) (by omega)).mono (fun z M1 e1 => ?_)
    obtain ⟨e1, hz⟩ := e1
    subst e1
    exact hQ z hz (by rw [hz]; exact (hO _ _).1)
  have pl : ∀ {k : Nat} {Q : Int → mM → Prop}, k < N → (∀ z, z = nt M (a + 7) k → i32 z → Q z M) → Ci G y_MM_place0 (d + 1) [vr a, vi k] M Q := fun hk hQ => by
    refine (s_MM_place0 (d := d) hO h0 hk).mono (fun z M1 e1 => ?_)
    obtain ⟨e1, hz⟩ := e1
    subst e1
    exact hQ z hz (by rw [hz]; exact (hO _ _).1)
  refine k_MM_sameWord hO (i32s (by omega) (by omega)) (i32s (by omega) (by omega)) ?_
  rw [w.1.2.2.1.2.2.1]
  refine ⟨w.1.1, (w.nu n9).1, at9 hx (fun z1 e1 i1 => ⟨i1, hO, w.1.1, pl hx (fun z2 e2 i2 => ⟨i2, hO, w.1.1, ?_⟩)⟩)⟩
  rw [w.1.2.2.1.2.2.1]
  refine ⟨(w.nu n9).1, at9 hy (fun z3 e3 i3 => ⟨i3, hO, w.1.1, pl hy (fun z4 e4 i4 => ⟨i4, hO, i32s (by omega) (by omega), i32s (by omega) (by omega), fun v hv => ?_⟩)⟩)⟩
  have hlen : v = 1 → z3 - z4 = z1 - z2 := fun q => by split at hv <;> omega
  suffices H : ∀ (c t : Nat) (u : Int), (t : Int) + c = z1 - z2 → (u = 0 ∨ u = 1) → (u = 1 → z3 - z4 = z1 - z2) → h_MM_sameWord_43 G (d + 1) a x y (z1 - z2) u t M (fun r M' => M' = M ∧ (r = 0 ∨ r = 1)) from
    H (z1 - z2).toNat 0 v (by omega) (by split at hv <;> omega) hlen
  intro c
  induction c with
  | zero =>
    intro t u ht hu _
    exact k_MM_sameWord_43 hO (i32s (by omega) (by omega)) (i32s (by omega) (by omega)) (i32s (by omega) (by omega)) (i32s (by omega) (by omega)) (i32s (by omega) (by omega)) ⟨fun _ => ⟨hu, rfl, hu⟩, fun q => absurd (Or.inl (by omega)) q⟩
  | succ c ih =>
    intro t u ht hu hl
    refine k_MM_sameWord_43 hO (i32s (by omega) (by omega)) (i32s (by omega) (by omega)) (i32s (by omega) (by omega)) (i32s (by omega) (by omega)) (i32s (by omega) (by omega)) ⟨fun _ => ⟨hu, rfl, hu⟩, fun q => ⟨w.1.1, pl hx (fun u1 f1 j1 => ⟨j1, hO, (w.nu hp).1, ?_⟩)⟩⟩
    have hu1 := hl (by omega)
    rw [show u1 + (t : Int) = (((u1 + (t : Int)).toNat : Nat) : Int) by first | rfl | omega]
    refine (s_MN_at hO (w.nu hp) (by omega)).mono (fun v1 M2 g2 => ?_)
    obtain ⟨g2, hv1⟩ := g2
    subst g2
    refine ⟨by rw [hv1]; exact (hO _ _).1, hO, w.1.1, pl hy (fun u2 f2 j2 => ⟨j2, hO, (w.nu hp).1, ?_⟩)⟩
    rw [show u2 + (t : Int) = (((u2 + (t : Int)).toNat : Nat) : Int) by first | rfl | omega]
    refine (s_MN_at hO (w.nu hp) (by omega)).mono (fun v2 M3 g3 => ?_)
    obtain ⟨g3, hv2⟩ := g3
    subst g3
    exact ⟨by rw [hv2]; exact (hO _ _).1, hO, fun v3 hv3 => ih (t + 1) v3 (by omega) (by split at hv3 <;> omega) (fun _ => hu1)⟩
/-- K names are known -/
def Nm (M : mM) (a g N K : Nat) : Prop := ln M (a + 85) = K ∧ ln M (a + 87) = K ∧ ln M (a + 89) = K ∧ K ≤ 200 ∧ ∀ k, k < K → (0 ≤ nt M (a + 85) k ∧ nt M (a + 85) k < N) ∧ ((nt M (a + 87) k = 3 ∧ 0 ≤ nt M (a + 89) k ∧ nt M (a + 89) k < mI M g 12) ∨ ((nt M (a + 87) k = 1 ∨ nt M (a + 87) k = 2) ∧ 0 ≤ nt M (a + 89) k ∧ nt M (a + 89) k < mI M g 6)) ∧ (nt M (a + 87) k = 1 → mI M (g + 13) (nt M (a + 89) k).toNat = 0)
theorem s_MM_find {y K : Nat} (hO : mOk M) (h : Wx M a N) (hn : Nm M a g N K) (hy : y < N) : Ci G y_MM_find (d + 3) [vr a, vi y] M (fun r M' => M' = M ∧ -1 ≤ r ∧ r < K) := by
  have w := h.1.1
  have hN := h.1.2.2
  obtain ⟨n1, n2, n3, n4, n5'⟩ := hn
  have r13 : mR M a 13 = a + 85 := w.1.2.2.2.2.1.1
  have l1 : mI M (a + 85) 1 = K := n1
  refine k_MM_find hO (i32s (by omega) (by omega)) ?_
  suffices H : ∀ (c k : Nat) (f : Int), k + c = K → -1 ≤ f → f < K → h_MM_find_4 G (d + 2) a y f k M (fun r M' => M' = M ∧ -1 ≤ r ∧ r < K) from
    H K 0 (-1) (by omega) (by omega) (by omega)
  intro c
  induction c with
  | zero =>
    intro k f hk f0 f1
    refine k_MM_find_4 hO (i32s (by omega) (by omega)) (i32s (by omega) (by omega)) (i32s (by omega) (by omega)) ?_
    rw [r13, l1]
    exact ⟨w.1.1, (w.nu n85).1, fun _ => ⟨rfl, f0, f1⟩, fun q => by omega⟩
  | succ c ih =>
    intro k f hk f0 f1
    obtain ⟨⟨a1, a2⟩, -⟩ := n5' k (by omega)
    refine k_MM_find_4 hO (i32s (by omega) (by omega)) (i32s (by omega) (by omega)) (i32s (by omega) (by omega)) ?_
    rw [r13, l1]
    refine ⟨w.1.1, (w.nu n85).1, fun q => by omega, fun _ => (s_MN_at hO (w.nu n85) (by omega)).mono (fun z M1 e1 => ?_)⟩
    obtain ⟨e1, hz⟩ := e1
    subst e1
    refine ⟨by rw [hz]; exact (hO _ _).1, hO, w.1.1, ?_⟩
    rw [show z = ((z.toNat : Nat) : Int) by first | rfl | omega]
    refine (s_MM_sameWord (d := d) hO h (by omega) hy).mono (fun r M2 e2 => ?_)
    obtain ⟨e2, hr⟩ := e2
    subst e2
    exact ⟨i32s (by omega) (by omega), hO, fun v hv => ih (k + 1) v (by omega) (by split at hv <;> omega) (by split at hv <;> omega)⟩
theorem s_MM_stop {c p : Int} (hc : i32 c) (hp : i32 p) (hO : mOk M) (h : Wd M a) : Cv G y_MM_stop d [vr a, vi c, vi p] M (fun M' => Mv (fun _ => False) (fun x => x = a) M a M' ∧ mI M' a 16 = c ∧ mI M' a 17 = p ∧ ∀ i, i ≠ 16 → i ≠ 17 → mI M' a i = mI M a i) := by
  refine k_MM_stop hO hc hp ⟨h.1.1, fun M1 e1 M2 e2 => ?_⟩
  obtain ⟨m1, f1⟩ := mv_fld hc hO h e1
  obtain ⟨m2, f2⟩ := mv_fld hp m1.1 m1.2.1 e2
  exact ⟨m1.trans m2, by rw [f2, if_neg (by omega), f1, if_pos rfl], by rw [f2, if_pos rfl], fun i i1 i2 => by rw [f2, if_neg i2, f1, if_neg i1]⟩
/-- how many brothers there are -/
theorem s_pt14 {nm : Int → Prop} {T : Nat} (hO : mOk M) (h : Wd M a) (hg : g = a + 13 ∨ g = a + 49) (hd : mR M a 10 = g) (hn : nd M g T) (hT : T ≤ 100000) : ∀ (k f n e : Nat) (c : Int), 1 ≤ k → Tn nm M g f k n e → e ≤ T → 0 ≤ c → c + k ≤ 200000 → h_MM_parts_14 G d a c n M (fun r M' => M' = M ∧ r = c + k) := by
  have gp := h.gp hg
  have g11 : tL g (g + 11) := by omega
  have u11 := h.nu (tL_in (a := a) hg g11)
  have r5 : mR M g 5 = g + 11 := gp.2.1.2.2.2.2.2.1
  intro k
  induction k with
  | zero => intro f n e c hk; omega
  | succ k ih =>
    intro f n e c hk ht heT c0 c1
    have hlt := ht.lt
    cases f with
    | zero => exact ht.elim
    | succ f =>
      have ht' : Tn nm M g (f + 1) (k + 1) n e := ht
      rw [Tn, if_neg (by omega)] at ht'
      refine k_MM_parts_14 hO ⟨by omega, by omega⟩ (i32s (by omega) (by omega)) ⟨fun q => by omega, fun _ => ?_⟩
      rw [hd, r5]
      refine ⟨h.1.1, gp.1, u11.1, (s_MN_at hO u11 (by rw [hn _ g11]; omega)).mono (fun z M1 e1 => ?_)⟩
      obtain ⟨e1, hz⟩ := e1
      subst e1
      refine ⟨by rw [hz]; exact (hO _ _).1, hO, ?_⟩
      by_cases k0 : k + 1 = 1
      · rw [if_pos k0] at ht'
        have : z = -1 := hz.trans ht'.1
        rw [this]
        exact k_MM_parts_14 hO ⟨by omega, by omega⟩ (i32s (by omega) (by omega)) ⟨fun _ => ⟨rfl, by omega⟩, fun q => by omega⟩
      · rw [if_neg k0] at ht'
        obtain ⟨m, q1, q2, q3⟩ := ht'
        have hzm : z = (m : Int) := hz.trans q1
        rw [hzm]
        have q3' : Tn nm M1 g f k m e := q3
        have := ih f m e (c + 1) (by omega) q3' heT (by omega) (by omega)
        rw [show c + ((k + 1 : Nat) : Int) = c + 1 + (k : Int) by first | rfl | omega]
        exact this
end NA
end
end
section
section
/-! The reference: the pile of values. -/
section PU
variable {G : mG} {d a : Nat} {M M1 : mM}
/-- a long of a cell that is no list -/
theorem mv_ul {x j : Nat} {v : Int} (hv : i64 v) (hO : mOk M) (h : Wd M a) (e : M1 = mUL M x j v) : Mv (fun _ => False) (fun y => y = x) M a M1 ∧ (∀ y k, mL M1 y k = if y = x ∧ k = j then v else mL M y k) ∧ mI M1 = mI M := by
  subst e
  refine ⟨⟨mOk_UL hO hv, h, ⟨Nat.le_refl _, Nat.le_refl _⟩, ⟨⟨Nat.le_refl _, fun _ z => z.elim⟩, fun _ _ => ⟨rfl, rfl⟩, fun _ _ _ => rfl, fun y _ _ _ hy => ⟨rfl, ?_⟩, fun _ z => z.elim⟩, fun q _ _ => ⟨rfl, fun _ => rfl, rfl, rfl⟩⟩, fun y k => mL_UL .., rfl⟩
  funext k
  rw [mL_UL, if_neg (fun z => hy z.1)]
abbrev vS (a : Nat) : Nat → Prop := fun x => x = a ∨ x = a + 97 ∨ x = a + 98
/-- a value has been pushed: V were there -/
def psQ (M : mM) (a V : Nat) (A B : Int) (M' : mM) : Prop := Mv (fun _ => False) (vS a) M a M' ∧ mI M' a 23 = (V + 1 : Nat) ∧ (∀ i, i ≠ 23 → mI M' a i = mI M a i) ∧ (∀ k, mL M' (a + 97) k = if k = V then A else mL M (a + 97) k) ∧ ∀ k, mL M' (a + 98) k = if k = V then B else mL M (a + 98) k
theorem s_MM_push {V : Nat} {A B : Int} (hA : i64 A) (hB : i64 B) (hO : mOk M) (h : Wd M a) (hV : mI M a 23 = (V : Int)) (hb : V < 16400) : Cv G y_MM_push d [vr a, vl A, vl B] M (fun M' => mOk M' ∧ psQ M a V A B M') := by
  refine Cv.mono (Q := psQ M a V A B) ?_ (fun M' t => ⟨t.1.1, t⟩)
  have r21 : ∀ {M3 : mM}, Wd M3 a → mR M3 a 21 = a + 97 := fun w => w.1.2.2.2.2.1.2.2.2.2.2.2.1
  have r22 : ∀ {M3 : mM}, Wd M3 a → mR M3 a 22 = a + 98 := fun w => w.1.2.2.2.2.1.2.2.2.2.2.2.2.1
  refine k_MM_push hO hA hB ?_
  rw [r21 h, hV]
  have n97 : mK M (a + 97) = 33 ∧ mN M (a + 97) = 16400 := h.1.2.2.2.2.2.2.2.1.1
  have n98 : mK M (a + 98) = 33 ∧ mN M (a + 98) = 16400 := h.1.2.2.2.2.2.2.2.1.2.1
  refine ⟨h.1.1, n97.1, by rw [n97.2]; omega, fun M2 e2 => ?_⟩
  obtain ⟨m2, l2, i2⟩ := mv_ul hA hO h e2
  rw [r22 m2.2.1, i2, hV]
  have z := h.2.2.2
  have f2 := m2.2.2.2.1.2.1 (a + 98) (by omega)
  refine ⟨f2.1.trans n98.1, by rw [f2.2, n98.2]; omega, fun M3 e3 => ?_⟩
  obtain ⟨m3, l3, i3⟩ := mv_ul hB m2.1 m2.2.1 e3
  rw [i3, i2, hV]
  refine ⟨⟨by omega, by omega⟩, fun M4 e4 => ?_⟩
  obtain ⟨m4, i4⟩ := mv_fld (v := (V : Int) + 1) ⟨by omega, by omega⟩ m3.1 m3.2.1 e4
  have o4 := m4.2.2.2.1
  have c4 : ∀ x, x < mZ M3 → x ≠ a → mL M4 x = mL M3 x := fun x hx hne => (o4.2.2.2.1 x hx (fun w => w) (fun p w => w.elim) hne).2
  have z3 := m3.2.1.2.2.2
  have no : ∀ q : Nat, False → q < mZ M := fun _ w => w.elim
  refine ⟨((m2.mono (S' := vS a) (fun _ w => w) (fun x w => Or.inr (Or.inl w)) no).trans (m3.mono (S' := vS a) (fun _ w => w) (fun x w => Or.inr (Or.inr w)) (fun _ w => w.elim))).trans (m4.mono (S' := vS a) (fun _ w => w) (fun x w => Or.inl w) (fun _ w => w.elim)), by rw [i4, if_pos rfl]; omega, fun i hi => by rw [i4, if_neg hi, i3, i2], fun k => ?_, fun k => ?_⟩
  · rw [c4 _ (by omega) (by omega), l3, if_neg (fun w => by omega), l2, Int.toNat_natCast]
    by_cases y : k = V
    · rw [if_pos ⟨rfl, y⟩, if_pos y]
    · rw [if_neg (fun w => y w.2), if_neg y]
  · rw [c4 _ (by omega) (by omega), l3, Int.toNat_natCast]
    by_cases y : k = V
    · rw [if_pos ⟨rfl, y⟩, if_pos y]
    · rw [if_neg (fun w => y w.2), l2, if_neg (fun w => by omega), if_neg y]
theorem s_MM_pushTruth {V : Nat} {t : Int} (ht : i32 t) (hO : mOk M) (h : Wd M a) (hV : mI M a 23 = (V : Int)) (hb : V < 16400) : Cv G y_MM_pushTruth (d + 1) [vr a, vi t] M (fun M' => mOk M' ∧ psQ M a V (if t = 0 then 0 else 1) 0 M') := by
  refine k_MM_pushTruth hO ht (fun v hv => ⟨h.1.1, ?_⟩)
  rw [← hv]
  refine (s_MM_push (d := d) ⟨by split at hv <;> omega, by split at hv <;> omega⟩ ⟨by omega, by omega⟩ hO h hV hb).mono (fun M' t => ⟨t.1, t⟩)
end PU
end
section
/-! The reference: fractions are reckoned. -/
section RK
variable {G : mG} {d a V : Nat} {M : mM}
/-- a value of type t: a fraction, or a truth with 0 below -/
def vok (t A B : Int) : Prop := (t = 0 ∧ -1000000000 < A ∧ A < 1000000000 ∧ 1 ≤ B ∧ B < 1000000000) ∨ (t = 1 ∧ (A = 0 ∨ A = 1) ∧ B = 0)
/-- a value has been reckoned, or a fault told -/
def rkQ (M : mM) (a V : Nat) (t : Int) (M' : mM) : Prop := Mv (fun _ => False) (vS a) M a M' ∧ (∀ i, i ≠ 16 → i ≠ 17 → i ≠ 23 → mI M' a i = mI M a i) ∧ (∀ k, k < V → mL M' (a + 97) k = mL M (a + 97) k ∧ mL M' (a + 98) k = mL M (a + 98) k) ∧ (mI M' a 16 ≠ 0 ∨ (mI M' a 16 = mI M a 16 ∧ mI M' a 23 = (V + 1 : Nat) ∧ vok t (mL M' (a + 97) V) (mL M' (a + 98) V)))
theorem cmpz (z b : Int) : (0 ≤ cmpL z b ↔ b ≤ z) ∧ (cmpL z b ≤ 0 ↔ z ≤ b) ∧ (cmpL z b < 0 ↔ z < b) ∧ (cmpL z b = 0 ↔ z = b) ∧ (0 < cmpL z b ↔ b < z) := by unfold cmpL; split <;> (try split) <;> omega
theorem psQ.rk {t A B : Int} {M' : mM} (h : psQ M a V A B M') (hv : vok t A B) : rkQ M a V t M' := by
  obtain ⟨h1, h2, h3, h4, h5⟩ := h
  exact ⟨h1, fun i _ _ i3 => h3 i i3, fun k hk => ⟨by rw [h4, if_neg (by omega)], by rw [h5, if_neg (by omega)]⟩, Or.inr ⟨h3 16 (by omega), h2, by rw [h4, h5, if_pos rfl, if_pos rfl]; exact hv⟩⟩
/-- a fault, and nothing else -/
theorem st_rk {t c p : Int} {M' : mM} (hc : c ≠ 0) (h : Mv (fun _ => False) (fun x => x = a) M a M' ∧ mI M' a 16 = c ∧ mI M' a 17 = p ∧ ∀ i, i ≠ 16 → i ≠ 17 → mI M' a i = mI M a i) (w : Wd M a) : rkQ M a V t M' := by
  obtain ⟨m, f1, f2, f3⟩ := h
  have z := w.2.2.2
  have cl : ∀ x, x < mZ M → x ≠ a → mL M' x = mL M x := fun x hx hne => (m.2.2.2.1.2.2.2.1 x hx (fun y => y) (fun p y => y.elim) hne).2
  exact ⟨m.mono (fun _ y => y) (fun x y => Or.inl y) (fun _ y => y.elim), fun i i1 i2 _ => f3 i i1 i2, fun k _ => ⟨by rw [cl _ (by omega) (by omega)], by rw [cl _ (by omega) (by omega)]⟩, Or.inl (by rw [f1]; exact hc)⟩
end RK
end
section
/-! The reference: reckon and best. -/
section RB
variable {G : mG} {d a V : Nat} {M : mM}
theorem mul9 {x y : Int} (hx : -1000000000 < x ∧ x < 1000000000) (hy : -1000000000 < y ∧ y < 1000000000) : -1000000000000000000 < x * y ∧ x * y < 1000000000000000000 := by
  have h1 : x.natAbs ≤ 999999999 := by omega
  have h2 : y.natAbs ≤ 999999999 := by omega
  have h3 := Nat.mul_le_mul h1 h2
  rw [← Int.natAbs_mul] at h3
  omega
theorem tmod9 {x y : Int} (hy : 0 < y) : -y < Int.tmod x y ∧ Int.tmod x y < y := by
  by_cases hx : 0 ≤ x
  · rw [Int.tmod_eq_emod_of_nonneg hx]
    have b1 := Int.emod_nonneg x (show y ≠ 0 by omega)
    have b2 := Int.emod_lt_of_pos x hy
    omega
  · have e : Int.tmod x y = -(Int.tmod (-x) y) := by rw [Int.neg_tmod]; omega
    rw [e, Int.tmod_eq_emod_of_nonneg (show 0 ≤ -x by omega)]
    have b1 := Int.emod_nonneg (-x) (show y ≠ 0 by omega)
    have b2 := Int.emod_lt_of_pos (-x) hy
    omega
end RB
end
section
/-! The reference: a long is cut to an int. -/
section W32
variable {G : mG} {y : mY} {d pc : Nat} {L st : List mV} {M : mM} {Q : Option mV → mM → Prop}
def w32 (x : Int) : Int := (Int32.ofInt x).toInt
theorem w32_id {x : Int} (h : i32 x) : w32 x = x := i32_toInt h
theorem i32_w32 {x : Int} : i32 (w32 x) := by
  have h1 := Int32.le_toInt (Int32.ofInt x)
  have h2 := Int32.toInt_lt (Int32.ofInt x)
  unfold w32
  exact ⟨by omega, by omega⟩
theorem wm_l2iw {x : Int} (hd : decode y.2.1 pc = .ok (.l2i, 1)) (h : mWm G y d (pc + 1) L (vi (w32 x) :: st) M Q) : mWm G y d pc L (vl x :: st) M Q := wm_st (fun p e R s m args below meth c H locs cells slots ls Qf hA hR hL k => lv_l2i hA.1 hA.2.1 hd ((m_l2i x).trans (Int32.ofInt_toInt _).symm) k) h
theorem wm_w {x : Int} (h : mWm G y d pc L (vi (w32 x) :: st) M Q) : mWm G y d pc L (vi x :: st) M Q := by
  have e : (vi (w32 x) :: st).map mcv = (vi x :: st).map mcv := by
    show Value.int (Int32.ofInt (w32 x)) :: st.map mcv = Value.int (Int32.ofInt x) :: st.map mcv
    rw [show Int32.ofInt (w32 x) = Int32.ofInt x from Int32.ofInt_toInt _]
  obtain ⟨r, M', h1, h2⟩ := h
  refine ⟨r, M', ⟨h1.1, ?_⟩, h2⟩
  rw [← e]
  exact h1.2
end W32
theorem k_MM_wholeOf2 {G : mG} {d : Nat} {a0 : Nat} {l1 : Int} {l2 : Int} {M : mM} {Q : Int → mM → Prop} (hO : mOk M) (hi_l1 : i32 l1) (hi_l2 : i32 l2)
    (h : mK M a0 = 14 ∧ ((mI M a0 16 = 0) → (Cv G y_MM_workOut d [vr a0, vr (mR M a0 10), vi l1] M (fun M4 => mOk M4 ∧ (mK M4 a0 = 14 ∧ ((mI M4 a0 16 = 0) → (mK M4 (mR M4 a0 22) = 33 ∧ ((0 : Int) ≤ 0 ∧ 0 < (mN M4 (mR M4 a0 22) : Int)))) ∧ (((¬ (mI M4 a0 16 = 0)) ∨ (cmpL (mL M4 (mR M4 a0 22) 0) 1 = 0)) → (mK M4 (mR M4 a0 21) = 33 ∧ ((0 : Int) ≤ 0 ∧ 0 < (mN M4 (mR M4 a0 21) : Int)) ∧ Q (w32 (mL M4 (mR M4 a0 21) 0)) M4)) ∧ (¬ ((¬ (mI M4 a0 16 = 0)) ∨ (cmpL (mL M4 (mR M4 a0 22) 0) 1 = 0)) → (Ci G y_MM_place0 d [vr a0, vi l2] M4 (fun x22 M21 => i32 x22 ∧ mOk M21 ∧ (mK M21 a0 = 14 ∧ Cv G y_MM_stop d [vr a0, vi 8, vi x22] M21 (fun M25 => mOk M25 ∧ (mK M25 a0 = 14 ∧ mK M25 (mR M25 a0 21) = 33 ∧ ((0 : Int) ≤ 0 ∧ 0 < (mN M25 (mR M25 a0 21) : Int)) ∧ Q (w32 (mL M25 (mR M25 a0 21) 0)) M25)))))))))) ∧ (¬ (mI M a0 16 = 0) → (Q 0 M))) :
    Ci G y_MM_wholeOf (d + 1) [vr a0, vi l1, vi l2] M Q := by
  refine wm_open (y := y_MM_wholeOf) rfl (Nat.le_of_ble_eq_true rfl) (L := [vr a0, vi l1, vi l2]) rfl ?_
  obtain ⟨h1, h⟩ := h
  refine wm_aload_n d_MM_wholeOf_0 rfl rfl ?_
  refine gf_MM_267 rfl d_MM_wholeOf_1 h1 ?_
  refine wm_if_eq (tgt := 9) d_MM_wholeOf_4 rfl (hO _ _).1 (fun c3 => ?_) (fun c3 => ?_)
  · replace h := h.1 c3
    refine wm_aload_n d_MM_wholeOf_9 rfl rfl ?_
    refine wm_aload_n d_MM_wholeOf_10 rfl rfl ?_
    refine gf_MM_38 rfl d_MM_wholeOf_11 h1 ?_
    refine wm_iload_n d_MM_wholeOf_14 rfl rfl ?_
    refine cf_MM_450 rfl d_MM_wholeOf_15 h1 (Nat.le_of_ble_eq_true rfl) (Cv.mono h (fun M4 h => ?_))
    obtain ⟨hOM4, h⟩ := h
    obtain ⟨h7, h⟩ := h
    refine wm_aload_n d_MM_wholeOf_18 rfl rfl ?_
    refine gf_MM_267 rfl d_MM_wholeOf_19 h7 ?_
    obtain ⟨s16, h⟩ := h
    have hE0 : ((¬ (mI M4 a0 16 = 0)) ∨ (cmpL (mL M4 (mR M4 a0 22) 0) 1 = 0)) → mWm G y_MM_wholeOf (d + 1) 47 [vr a0, vi l1, vi l2] [] M4 (fun r9 M9 => ∃ x9, r9 = some (vi x9) ∧ Q x9 M9) := by
      intro q17
      have h := h.1 q17
      obtain ⟨h18, h⟩ := h
      obtain ⟨h19, h⟩ := h
      refine wm_aload_n d_MM_wholeOf_47 rfl rfl ?_
      refine gf_MM_63 rfl d_MM_wholeOf_48 h7 ?_
      refine wm_iconst d_MM_wholeOf_51 ?_
      refine wm_lald d_MM_wholeOf_52 h18 h19 ?_
      refine wm_l2iw d_MM_wholeOf_53 ?_
      refine wm_ireturn d_MM_wholeOf_54 rfl rfl ?_
      exact ⟨_, rfl, h⟩
    have hE1 : ¬ ((¬ (mI M4 a0 16 = 0)) ∨ (cmpL (mL M4 (mR M4 a0 22) 0) 1 = 0)) → mWm G y_MM_wholeOf (d + 1) 36 [vr a0, vi l1, vi l2] [] M4 (fun r9 M9 => ∃ x9, r9 = some (vi x9) ∧ Q x9 M9) := by
      intro q20
      have h := h.2 q20
      refine wm_aload_n d_MM_wholeOf_36 rfl rfl ?_
      refine wm_bipush d_MM_wholeOf_37 (by decide) ?_
      refine wm_aload_n d_MM_wholeOf_39 rfl rfl ?_
      refine wm_iload_n d_MM_wholeOf_40 rfl rfl ?_
      refine cf_MM_279 rfl d_MM_wholeOf_41 h7 (Nat.le_of_ble_eq_true rfl) (Ci.mono h (fun x22 M21 h => ?_))
      obtain ⟨h23, hOM21, h⟩ := h
      obtain ⟨h24, h⟩ := h
      refine cf_MM_351 rfl d_MM_wholeOf_44 h24 (Nat.le_of_ble_eq_true rfl) (Cv.mono h (fun M25 h => ?_))
      obtain ⟨hOM25, h⟩ := h
      obtain ⟨h28, h⟩ := h
      obtain ⟨h29, h⟩ := h
      obtain ⟨h30, h⟩ := h
      refine wm_aload_n d_MM_wholeOf_47 rfl rfl ?_
      refine gf_MM_63 rfl d_MM_wholeOf_48 h28 ?_
      refine wm_iconst d_MM_wholeOf_51 ?_
      refine wm_lald d_MM_wholeOf_52 h29 h30 ?_
      refine wm_l2iw d_MM_wholeOf_53 ?_
      refine wm_ireturn d_MM_wholeOf_54 rfl rfl ?_
      exact ⟨_, rfl, h⟩
    clear h
    have s31 := s16
    refine wm_if_ne (tgt := 47) d_MM_wholeOf_22 rfl (hOM4 _ _).1 (fun c15 => ?_) (fun c15 => ?_)
    · exact hE0 (Or.inl c15)
    · replace c15 := Classical.not_not.mp c15
      have s31 := s31 c15
      obtain ⟨h12, h13⟩ := s31
      refine wm_aload_n d_MM_wholeOf_25 rfl rfl ?_
      refine gf_MM_67 rfl d_MM_wholeOf_26 h7 ?_
      refine wm_iconst d_MM_wholeOf_29 ?_
      refine wm_lald d_MM_wholeOf_30 h12 h13 ?_
      refine wm_lconst (x := 1) d_MM_wholeOf_31 rfl ?_
      refine wm_lcmp d_MM_wholeOf_32 (hOM4 _ _).2 ⟨by decide, by decide⟩ ?_
      refine wm_if_eq (tgt := 47) d_MM_wholeOf_33 rfl (m_cmp32 _ _) (fun c14 => ?_) (fun c14 => ?_)
      · exact hE0 (Or.inr c14)
      · exact hE1 (fun z32 => Or.elim z32 (fun w => w c15) c14)
  · replace h := h.2 c3
    refine wm_iconst d_MM_wholeOf_7 ?_
    refine wm_ireturn d_MM_wholeOf_8 rfl rfl ?_
    exact ⟨_, rfl, h⟩
theorem k_MM_begins2 {G : mG} {d : Nat} {a0 : Nat} {l1 : Int} {l2 : Int} {l3 : Int} {M : mM} {Q : mM → Prop} (hO : mOk M) (hi_l1 : i32 l1) (hi_l2 : i32 l2) (hi_l3 : i32 l3)
    (h : mK M a0 = 14 ∧ mK M (mR M a0 10) = 16 ∧ mK M (mR M (mR M a0 10) 13) = 31 ∧ ((0 : Int) ≤ l1 ∧ l1 < (mN M (mR M (mR M a0 10) 13) : Int)) ∧ ((mI M (mR M (mR M a0 10) 13) (Int.toNat l1) = 0) → (Ci G y_MM_wholeOf d [vr a0, vi l2, vi l3] M (fun x8 M7 => i32 x8 ∧ mOk M7 ∧ (mK M7 a0 = 14 ∧ ((mI M7 a0 16 = 0) → (mK M7 (mR M7 a0 10) = 16 ∧ mK M7 (mR M7 (mR M7 a0 10) 14) = 30 ∧ ((0 : Int) ≤ l1 ∧ l1 < (mN M7 (mR M7 (mR M7 a0 10) 14) : Int)) ∧ (¬ (x8 < mI M7 (mR M7 (mR M7 a0 10) 14) (Int.toNat l1)) → (mK M7 (mR M7 (mR M7 a0 10) 15) = 30 ∧ ((0 : Int) ≤ l1 ∧ l1 < (mN M7 (mR M7 (mR M7 a0 10) 15) : Int)))))) ∧ (((mI M7 a0 16 = 0) ∧ ((x8 < mI M7 (mR M7 (mR M7 a0 10) 14) (Int.toNat l1)) ∨ (¬ (x8 ≤ mI M7 (mR M7 (mR M7 a0 10) 15) (Int.toNat l1))))) → (Ci G y_MM_place0 d [vr a0, vi l3] M7 (fun x27 M26 => i32 x27 ∧ mOk M26 ∧ (mK M26 a0 = 14 ∧ Cv G y_MM_stop d [vr a0, vi 9, vi x27] M26 (fun M30 => mOk M30 ∧ (mK M30 a0 = 14 ∧ mK M30 (mR M30 a0 10) = 16 ∧ mK M30 (mR M30 (mR M30 a0 10) 16) = 30 ∧ ((0 : Int) ≤ l1 ∧ l1 < (mN M30 (mR M30 (mR M30 a0 10) 16) : Int)) ∧ ∀ M37, M37 = mUI M30 (mR M30 (mR M30 a0 10) 16) (Int.toNat l1) x8 → Q M37)))))) ∧ (¬ ((mI M7 a0 16 = 0) ∧ ((x8 < mI M7 (mR M7 (mR M7 a0 10) 14) (Int.toNat l1)) ∨ (¬ (x8 ≤ mI M7 (mR M7 (mR M7 a0 10) 15) (Int.toNat l1))))) → (mK M7 (mR M7 a0 10) = 16 ∧ mK M7 (mR M7 (mR M7 a0 10) 16) = 30 ∧ ((0 : Int) ≤ l1 ∧ l1 < (mN M7 (mR M7 (mR M7 a0 10) 16) : Int)) ∧ ∀ M43, M43 = mUI M7 (mR M7 (mR M7 a0 10) 16) (Int.toNat l1) x8 → Q M43)))))) ∧ (¬ (mI M (mR M (mR M a0 10) 13) (Int.toNat l1) = 0) → (Cv G y_MM_workOut d [vr a0, vr (mR M a0 10), vi l2] M (fun M51 => mOk M51 ∧ (mK M51 a0 = 14 ∧ mK M51 (mR M51 a0 10) = 16 ∧ mK M51 (mR M51 a0 21) = 33 ∧ ((0 : Int) ≤ 0 ∧ 0 < (mN M51 (mR M51 a0 21) : Int)) ∧ mK M51 (mR M51 (mR M51 a0 10) 16) = 30 ∧ ((0 : Int) ≤ l1 ∧ l1 < (mN M51 (mR M51 (mR M51 a0 10) 16) : Int)) ∧ ∀ M61, M61 = mUI M51 (mR M51 (mR M51 a0 10) 16) (Int.toNat l1) (w32 (mL M51 (mR M51 a0 21) 0)) → Q M61))))) :
    Cv G y_MM_begins (d + 1) [vr a0, vi l1, vi l2, vi l3] M Q := by
  refine wm_open (y := y_MM_begins) rfl (Nat.le_of_ble_eq_true rfl) (L := [vr a0, vi l1, vi l2, vi l3, vd]) rfl ?_
  obtain ⟨h1, h⟩ := h
  obtain ⟨h2, h⟩ := h
  obtain ⟨h3, h⟩ := h
  obtain ⟨h4, h⟩ := h
  refine wm_aload_n d_MM_begins_0 rfl rfl ?_
  refine gf_MM_38 rfl d_MM_begins_1 h1 ?_
  refine gf_MM_357 rfl d_MM_begins_4 h2 ?_
  refine wm_iload_n d_MM_begins_7 rfl rfl ?_
  refine wm_zald d_MM_begins_8 h3 h4 ?_
  refine wm_if_eq (tgt := 38) d_MM_begins_9 rfl (hO _ _).1 (fun c6 => ?_) (fun c6 => ?_)
  · replace h := h.1 c6
    refine wm_aload_n d_MM_begins_38 rfl rfl ?_
    refine wm_iload_n d_MM_begins_39 rfl rfl ?_
    refine wm_iload_n d_MM_begins_40 rfl rfl ?_
    refine cf_MM_466 rfl d_MM_begins_41 h1 (Nat.le_of_ble_eq_true rfl) (Ci.mono h (fun x8 M7 h => ?_))
    obtain ⟨h9, hOM7, h⟩ := h
    obtain ⟨h10, h⟩ := h
    refine wm_istore d_MM_begins_44 (by decide) (L' := [vr a0, vi l1, vi l2, vi l3, vi x8]) rfl ?_
    refine wm_aload_n d_MM_begins_46 rfl rfl ?_
    refine gf_MM_267 rfl d_MM_begins_47 h10 ?_
    obtain ⟨s24, h⟩ := h
    have hE0 : ((mI M7 a0 16 = 0) ∧ ((x8 < mI M7 (mR M7 (mR M7 a0 10) 14) (Int.toNat l1)) ∨ (¬ (x8 ≤ mI M7 (mR M7 (mR M7 a0 10) 15) (Int.toNat l1))))) → mWm G y_MM_begins (d + 1) 81 [vr a0, vi l1, vi l2, vi l3, vi x8] [] M7 (fun r9 M9 => r9 = none ∧ Q M9) := by
      intro q25
      have h := h.1 q25
      refine wm_aload_n d_MM_begins_81 rfl rfl ?_
      refine wm_bipush d_MM_begins_82 (by decide) ?_
      refine wm_aload_n d_MM_begins_84 rfl rfl ?_
      refine wm_iload_n d_MM_begins_85 rfl rfl ?_
      refine cf_MM_279 rfl d_MM_begins_86 h10 (Nat.le_of_ble_eq_true rfl) (Ci.mono h (fun x27 M26 h => ?_))
      obtain ⟨h28, hOM26, h⟩ := h
      obtain ⟨h29, h⟩ := h
      refine cf_MM_351 rfl d_MM_begins_89 h29 (Nat.le_of_ble_eq_true rfl) (Cv.mono h (fun M30 h => ?_))
      obtain ⟨hOM30, h⟩ := h
      obtain ⟨h33, h⟩ := h
      obtain ⟨h34, h⟩ := h
      obtain ⟨h35, h⟩ := h
      obtain ⟨h36, h⟩ := h
      obtain ⟨M37, e38⟩ : ∃ M37, M37 = mUI M30 (mR M30 (mR M30 a0 10) 16) (Int.toNat l1) x8 := ⟨_, rfl⟩
      replace h := h M37 e38
      refine wm_aload_n d_MM_begins_92 rfl rfl ?_
      refine gf_MM_38 rfl d_MM_begins_93 h33 ?_
      refine gf_MM_469 rfl d_MM_begins_96 h34 ?_
      refine wm_iload_n d_MM_begins_99 rfl rfl ?_
      refine wm_iload d_MM_begins_100 rfl ?_
      have hOM37 : mOk M37 := by rw [e38]; exact mOk_UI hOM30 h9
      refine wm_iastE d_MM_begins_102 h35 h36 h9 e38 ?_
      refine wm_return d_MM_begins_103 rfl ?_
      exact ⟨rfl, h⟩
    have hE1 : ¬ ((mI M7 a0 16 = 0) ∧ ((x8 < mI M7 (mR M7 (mR M7 a0 10) 14) (Int.toNat l1)) ∨ (¬ (x8 ≤ mI M7 (mR M7 (mR M7 a0 10) 15) (Int.toNat l1))))) → mWm G y_MM_begins (d + 1) 92 [vr a0, vi l1, vi l2, vi l3, vi x8] [] M7 (fun r9 M9 => r9 = none ∧ Q M9) := by
      intro q39
      have h := h.2 q39
      obtain ⟨h40, h⟩ := h
      obtain ⟨h41, h⟩ := h
      obtain ⟨h42, h⟩ := h
      obtain ⟨M43, e44⟩ : ∃ M43, M43 = mUI M7 (mR M7 (mR M7 a0 10) 16) (Int.toNat l1) x8 := ⟨_, rfl⟩
      replace h := h M43 e44
      refine wm_aload_n d_MM_begins_92 rfl rfl ?_
      refine gf_MM_38 rfl d_MM_begins_93 h10 ?_
      refine gf_MM_469 rfl d_MM_begins_96 h40 ?_
      refine wm_iload_n d_MM_begins_99 rfl rfl ?_
      refine wm_iload d_MM_begins_100 rfl ?_
      have hOM43 : mOk M43 := by rw [e44]; exact mOk_UI hOM7 h9
      refine wm_iastE d_MM_begins_102 h41 h42 h9 e44 ?_
      refine wm_return d_MM_begins_103 rfl ?_
      exact ⟨rfl, h⟩
    clear h
    have s45 := s24
    refine wm_if_ne (tgt := 92) d_MM_begins_50 rfl (hOM7 _ _).1 (fun c23 => ?_) (fun c23 => ?_)
    · exact hE1 (fun z50 => c23 z50.1)
    · replace c23 := Classical.not_not.mp c23
      have s45 := s45 c23
      obtain ⟨h16, h17, h18, s46⟩ := s45
      refine wm_iload d_MM_begins_53 rfl ?_
      refine wm_aload_n d_MM_begins_55 rfl rfl ?_
      refine gf_MM_38 rfl d_MM_begins_56 h10 ?_
      refine gf_MM_461 rfl d_MM_begins_59 h16 ?_
      refine wm_iload_n d_MM_begins_62 rfl rfl ?_
      refine wm_iald d_MM_begins_63 h17 h18 ?_
      refine wm_icmp_lt (tgt := 81) d_MM_begins_64 rfl h9 (hOM7 _ _).1 (fun c22 => ?_) (fun c22 => ?_)
      · exact hE0 ⟨c23, (Or.inl c22)⟩
      · have s46 := s46 c22
        obtain ⟨h19, h20⟩ := s46
        refine wm_iload d_MM_begins_67 rfl ?_
        refine wm_aload_n d_MM_begins_69 rfl rfl ?_
        refine gf_MM_38 rfl d_MM_begins_70 h10 ?_
        refine gf_MM_463 rfl d_MM_begins_73 h16 ?_
        refine wm_iload_n d_MM_begins_76 rfl rfl ?_
        refine wm_iald d_MM_begins_77 h19 h20 ?_
        refine wm_icmp_le (tgt := 92) d_MM_begins_78 rfl h9 (hOM7 _ _).1 (fun c21 => ?_) (fun c21 => ?_)
        · exact hE1 (fun z47 => (fun z48 => Or.elim z48 c22 (fun z49 => z49 c21)) z47.2)
        · exact hE0 ⟨c23, (Or.inr c21)⟩
  · replace h := h.2 c6
    refine wm_aload_n d_MM_begins_12 rfl rfl ?_
    refine wm_aload_n d_MM_begins_13 rfl rfl ?_
    refine gf_MM_38 rfl d_MM_begins_14 h1 ?_
    refine wm_iload_n d_MM_begins_17 rfl rfl ?_
    refine cf_MM_450 rfl d_MM_begins_18 h1 (Nat.le_of_ble_eq_true rfl) (Cv.mono h (fun M51 h => ?_))
    obtain ⟨hOM51, h⟩ := h
    obtain ⟨h54, h⟩ := h
    obtain ⟨h55, h⟩ := h
    obtain ⟨h56, h⟩ := h
    obtain ⟨h57, h⟩ := h
    obtain ⟨h58, h⟩ := h
    obtain ⟨h59, h⟩ := h
    have h60 := i32_w32 (x := mL M51 (mR M51 a0 21) 0)
    obtain ⟨M61, e62⟩ : ∃ M61, M61 = mUI M51 (mR M51 (mR M51 a0 10) 16) (Int.toNat l1) (w32 (mL M51 (mR M51 a0 21) 0)) := ⟨_, rfl⟩
    replace h := h M61 e62
    refine wm_aload_n d_MM_begins_21 rfl rfl ?_
    refine gf_MM_38 rfl d_MM_begins_22 h54 ?_
    refine gf_MM_469 rfl d_MM_begins_25 h55 ?_
    refine wm_iload_n d_MM_begins_28 rfl rfl ?_
    refine wm_aload_n d_MM_begins_29 rfl rfl ?_
    refine gf_MM_63 rfl d_MM_begins_30 h54 ?_
    refine wm_iconst d_MM_begins_33 ?_
    refine wm_lald d_MM_begins_34 h56 h57 ?_
    refine wm_l2iw d_MM_begins_35 ?_
    have hOM61 : mOk M61 := by rw [e62]; exact mOk_UI hOM51 h60
    refine wm_iastE d_MM_begins_36 h58 h59 h60 e62 ?_
    refine wm_return d_MM_begins_37 rfl ?_
    exact ⟨rfl, h⟩

theorem k_MM_varItem_215w {G : mG} {d : Nat} {a0 : Nat} {l1 : Int} {l3 : Int} {l4 : Int} {l5 : Int} {l6 : Int} {l7 : Int} {l8 : Int} {l9 : Int} {k0 : Int} {M : mM} {Q : mM → Prop} (hO : mOk M) (hi_l1 : i32 l1) (hi_l3 : i32 l3) (hi_l4 : i32 l4) (hi_l5 : i32 l5) (hi_l6 : i32 l6) (hi_l7 : i32 l7) (hi_l8 : i32 l8) (hi_l9 : i32 l9) (hi_k0 : i32 k0)
    (h : mK M a0 = 14 ∧ ((mI M a0 16 = 0) → (((l4 = 0) → (mK M (mR M a0 10) = 16 ∧ Ci G y_MM_wholeOf d [vr a0, vi l7, vi (l1 + 3)] M (fun x107 M106 => i32 x107 ∧ mOk M106 ∧ (mK M106 (mR M (mR M a0 10) 14) = 30 ∧ ((0 : Int) ≤ l3 ∧ l3 < (mN M106 (mR M (mR M a0 10) 14) : Int)) ∧ ∀ M111, M111 = mUI M106 (mR M (mR M a0 10) 14) (Int.toNat l3) x107 → mK M111 a0 = 14 ∧ mK M111 (mR M111 a0 10) = 16 ∧ Ci G y_MM_wholeOf d [vr a0, vi l8, vi (l9 + 1)] M111 (fun x116 M115 => i32 x116 ∧ mOk M115 ∧ (mK M115 (mR M111 (mR M111 a0 10) 15) = 30 ∧ ((0 : Int) ≤ l3 ∧ l3 < (mN M115 (mR M111 (mR M111 a0 10) 15) : Int)) ∧ ∀ M120, M120 = mUI M115 (mR M111 (mR M111 a0 10) 15) (Int.toNat l3) x116 → mK M120 a0 = 14 ∧ mK M120 (mR M120 a0 10) = 16 ∧ mK M120 (mR M120 (mR M120 a0 10) 14) = 30 ∧ ((0 : Int) ≤ l3 ∧ l3 < (mN M120 (mR M120 (mR M120 a0 10) 14) : Int)) ∧ mK M120 (mR M120 (mR M120 a0 10) 15) = 30 ∧ ((0 : Int) ≤ l3 ∧ l3 < (mN M120 (mR M120 (mR M120 a0 10) 15) : Int)) ∧ (¬ (mI M120 (mR M120 (mR M120 a0 10) 15) (Int.toNat l3) < mI M120 (mR M120 (mR M120 a0 10) 14) (Int.toNat l3)) → (((0 : Int) ≤ l3 ∧ l3 < (mN M120 (mR M120 (mR M120 a0 10) 15) : Int)) ∧ ((0 : Int) ≤ l3 ∧ l3 < (mN M120 (mR M120 (mR M120 a0 10) 14) : Int)) ∧ True)) ∧ ∀ v133 : Int, v133 = (if ((mI M120 (mR M120 (mR M120 a0 10) 15) (Int.toNat l3) < mI M120 (mR M120 (mR M120 a0 10) 14) (Int.toNat l3)) ∨ (10000 ≤ w32 ((mI M120 (mR M120 (mR M120 a0 10) 15) (Int.toNat l3)) - (mI M120 (mR M120 (mR M120 a0 10) 14) (Int.toNat l3))))) then 0 else 1) → (((mI M120 a0 16 = 0) ∧ (v133 = 0)) → (Ci G y_MM_place0 d [vr a0, vi (l9 + 1)] M120 (fun x143 M142 => i32 x143 ∧ mOk M142 ∧ (mK M142 a0 = 14 ∧ Cv G y_MM_stop d [vr a0, vi 9, vi x143] M142 (fun M146 => mOk M146 ∧ (h_MM_varItem_369 G d a0 l1 l3 l5 l6 k0 M146 Q)))))) ∧ (¬ ((mI M120 a0 16 = 0) ∧ (v133 = 0)) → (h_MM_varItem_369 G d a0 l1 l3 l5 l6 k0 M120 Q)))))))) ∧ (¬ (l4 = 0) → (mK M (mR M a0 10) = 16 ∧ mK M (mR M (mR M a0 10) 14) = 30 ∧ ((0 : Int) ≤ l3 ∧ l3 < (mN M (mR M (mR M a0 10) 14) : Int)) ∧ ∀ M159, M159 = mUI M (mR M (mR M a0 10) 14) (Int.toNat l3) 0 → mK M159 (mR M159 a0 10) = 16 ∧ mK M159 (mR M159 (mR M159 a0 10) 15) = 30 ∧ ((0 : Int) ≤ l3 ∧ l3 < (mN M159 (mR M159 (mR M159 a0 10) 15) : Int)) ∧ ∀ M164, M164 = mUI M159 (mR M159 (mR M159 a0 10) 15) (Int.toNat l3) 1 → h_MM_varItem_369 G d a0 l1 l3 l5 l6 k0 M164 Q)))) ∧ (¬ (mI M a0 16 = 0) → (Q M))) :
    h_MM_varItem_215 G d a0 l1 l3 l4 l5 l6 l7 l8 l9 k0 M Q := by
  unfold h_MM_varItem_215
  obtain ⟨h99, h⟩ := h
  refine wm_istore d_MM_varItem_215 (by decide) (L' := [vr a0, vi l1, vd, vi l3, vi l4, vi l5, vi l6, vi l7, vi l8, vi l9, vi k0, vd]) rfl ?_
  refine wm_aload_n d_MM_varItem_217 rfl rfl ?_
  refine gf_MM_267 rfl d_MM_varItem_218 h99 ?_
  refine wm_if_eq (tgt := 225) d_MM_varItem_221 rfl (hO _ _).1 (fun c102 => ?_) (fun c102 => ?_)
  · replace h := h.1 c102
    refine wm_iload d_MM_varItem_225 rfl ?_
    refine wm_if_eq (tgt := 253) d_MM_varItem_227 rfl hi_l4 (fun c104 => ?_) (fun c104 => ?_)
    · replace h := h.1 c104
      obtain ⟨h105, h⟩ := h
      refine wm_aload_n d_MM_varItem_253 rfl rfl ?_
      refine gf_MM_38 rfl d_MM_varItem_254 h99 ?_
      refine gf_MM_461 rfl d_MM_varItem_257 h105 ?_
      refine wm_iload_n d_MM_varItem_260 rfl rfl ?_
      refine wm_aload_n d_MM_varItem_261 rfl rfl ?_
      refine wm_iload d_MM_varItem_262 rfl ?_
      refine wm_iload_n d_MM_varItem_264 rfl rfl ?_
      refine wm_iconst d_MM_varItem_265 ?_
      refine wm_iadd d_MM_varItem_266 ?_
      refine cf_MM_466 rfl d_MM_varItem_267 h99 (Nat.le_of_ble_eq_true rfl) (Ci.mono h (fun x107 M106 h => ?_))
      obtain ⟨h108, hOM106, h⟩ := h
      obtain ⟨h109, h⟩ := h
      obtain ⟨h110, h⟩ := h
      obtain ⟨M111, e112⟩ : ∃ M111, M111 = mUI M106 (mR M (mR M a0 10) 14) (Int.toNat l3) x107 := ⟨_, rfl⟩
      replace h := h M111 e112
      obtain ⟨h113, h⟩ := h
      obtain ⟨h114, h⟩ := h
      have hOM111 : mOk M111 := by rw [e112]; exact mOk_UI hOM106 h108
      refine wm_iastE d_MM_varItem_270 h109 h110 h108 e112 ?_
      refine wm_aload_n d_MM_varItem_271 rfl rfl ?_
      refine gf_MM_38 rfl d_MM_varItem_272 h113 ?_
      refine gf_MM_463 rfl d_MM_varItem_275 h114 ?_
      refine wm_iload_n d_MM_varItem_278 rfl rfl ?_
      refine wm_aload_n d_MM_varItem_279 rfl rfl ?_
      refine wm_iload d_MM_varItem_280 rfl ?_
      refine wm_iload d_MM_varItem_282 rfl ?_
      refine wm_iconst d_MM_varItem_284 ?_
      refine wm_iadd d_MM_varItem_285 ?_
      refine cf_MM_466 rfl d_MM_varItem_286 h113 (Nat.le_of_ble_eq_true rfl) (Ci.mono h (fun x116 M115 h => ?_))
      obtain ⟨h117, hOM115, h⟩ := h
      obtain ⟨h118, h⟩ := h
      obtain ⟨h119, h⟩ := h
      obtain ⟨M120, e121⟩ : ∃ M120, M120 = mUI M115 (mR M111 (mR M111 a0 10) 15) (Int.toNat l3) x116 := ⟨_, rfl⟩
      replace h := h M120 e121
      obtain ⟨h122, h⟩ := h
      obtain ⟨h123, h⟩ := h
      obtain ⟨h124, h⟩ := h
      obtain ⟨h125, h⟩ := h
      obtain ⟨h126, h⟩ := h
      obtain ⟨h127, h⟩ := h
      have hOM120 : mOk M120 := by rw [e121]; exact mOk_UI hOM115 h117
      refine wm_iastE d_MM_varItem_289 h118 h119 h117 e121 ?_
      refine wm_aload_n d_MM_varItem_290 rfl rfl ?_
      refine gf_MM_38 rfl d_MM_varItem_291 h122 ?_
      refine gf_MM_461 rfl d_MM_varItem_294 h123 ?_
      refine wm_iload_n d_MM_varItem_297 rfl rfl ?_
      refine wm_iald d_MM_varItem_298 h124 h125 ?_
      refine wm_aload_n d_MM_varItem_299 rfl rfl ?_
      refine gf_MM_38 rfl d_MM_varItem_300 h122 ?_
      refine gf_MM_463 rfl d_MM_varItem_303 h123 ?_
      refine wm_iload_n d_MM_varItem_306 rfl rfl ?_
      refine wm_iald d_MM_varItem_307 h126 h127 ?_
      obtain ⟨s134, h⟩ := h
      have hJ : ∀ v133 : Int, v133 = (if ((mI M120 (mR M120 (mR M120 a0 10) 15) (Int.toNat l3) < mI M120 (mR M120 (mR M120 a0 10) 14) (Int.toNat l3)) ∨ (10000 ≤ w32 ((mI M120 (mR M120 (mR M120 a0 10) 15) (Int.toNat l3)) - (mI M120 (mR M120 (mR M120 a0 10) 14) (Int.toNat l3))))) then 0 else 1) → mWm G y_MM_varItem (d + 1) 341 [vr a0, vi l1, vd, vi l3, vd, vi l5, vi l6, vd, vd, vi l9, vi k0, vd] [vi v133] M120 (fun r9 M9 => r9 = none ∧ Q M9) := by
        intro v133 e135
        have h := h v133 e135
        have h136 : i32 v133 := by rw [e135]; (repeat' split) <;> first | exact ⟨by decide, by decide⟩ | exact ⟨by decide, by decide⟩
        have h137 : (v133 = 0 ∨ v133 = 1) := by rw [e135]; (repeat' split) <;> decide
        refine wm_istore d_MM_varItem_341 (by decide) (L' := [vr a0, vi l1, vd, vi l3, vd, vi l5, vi l6, vd, vd, vi l9, vi k0, vi v133]) rfl ?_
        refine wm_aload_n d_MM_varItem_343 rfl rfl ?_
        refine gf_MM_267 rfl d_MM_varItem_344 h122 ?_
        have hE0 : ((mI M120 a0 16 = 0) ∧ (v133 = 0)) → mWm G y_MM_varItem (d + 1) 355 [vr a0, vi l1, vd, vi l3, vd, vi l5, vi l6, vd, vd, vi l9, vi k0, vi v133] [] M120 (fun r9 M9 => r9 = none ∧ Q M9) := by
          intro q141
          have h := h.1 q141
          refine wm_aload_n d_MM_varItem_355 rfl rfl ?_
          refine wm_bipush d_MM_varItem_356 (by decide) ?_
          refine wm_aload_n d_MM_varItem_358 rfl rfl ?_
          refine wm_iload d_MM_varItem_359 rfl ?_
          refine wm_iconst d_MM_varItem_361 ?_
          refine wm_iadd d_MM_varItem_362 ?_
          refine cf_MM_279 rfl d_MM_varItem_363 h122 (Nat.le_of_ble_eq_true rfl) (Ci.mono h (fun x143 M142 h => ?_))
          obtain ⟨h144, hOM142, h⟩ := h
          obtain ⟨h145, h⟩ := h
          refine cf_MM_351 rfl d_MM_varItem_366 h145 (Nat.le_of_ble_eq_true rfl) (Cv.mono h (fun M146 h => ?_))
          obtain ⟨hOM146, h⟩ := h
          refine wm_less (L' := [vr a0, vi l1, vd, vi l3, vd, vi l5, vi l6, vd, vd, vd, vi k0, vd]) ⟨Or.inr rfl, Or.inr rfl, Or.inl rfl, Or.inr rfl, Or.inl rfl, Or.inr rfl, Or.inr rfl, Or.inl rfl, Or.inl rfl, Or.inl rfl, Or.inr rfl, Or.inl rfl, trivial⟩ ?_
          exact h
        have hE1 : ¬ ((mI M120 a0 16 = 0) ∧ (v133 = 0)) → mWm G y_MM_varItem (d + 1) 369 [vr a0, vi l1, vd, vi l3, vd, vi l5, vi l6, vd, vd, vi l9, vi k0, vi v133] [] M120 (fun r9 M9 => r9 = none ∧ Q M9) := by
          intro q149
          have h := h.2 q149
          refine wm_less (L' := [vr a0, vi l1, vd, vi l3, vd, vi l5, vi l6, vd, vd, vd, vi k0, vd]) ⟨Or.inr rfl, Or.inr rfl, Or.inl rfl, Or.inr rfl, Or.inl rfl, Or.inr rfl, Or.inr rfl, Or.inl rfl, Or.inl rfl, Or.inl rfl, Or.inr rfl, Or.inl rfl, trivial⟩ ?_
          exact h
        clear h
        refine wm_if_ne (tgt := 369) d_MM_varItem_347 rfl (hOM120 _ _).1 (fun c139 => ?_) (fun c139 => ?_)
        · exact hE1 (fun z152 => c139 z152.1)
        · replace c139 := Classical.not_not.mp c139
          refine wm_iload d_MM_varItem_350 rfl ?_
          refine wm_if_ne (tgt := 369) d_MM_varItem_352 rfl h136 (fun c138 => ?_) (fun c138 => ?_)
          · exact hE1 (fun z150 => c138 z150.2)
          · replace c138 := Classical.not_not.mp c138
            exact hE0 ⟨c139, c138⟩
      clear h
      have s153 := s134
      refine wm_icmp_gt (tgt := 340) d_MM_varItem_308 rfl (hOM120 _ _).1 (hOM120 _ _).1 (fun c128 => ?_) (fun c128 => ?_)
      · refine wm_iconst d_MM_varItem_340 ?_
        refine wm_less (L' := [vr a0, vi l1, vd, vi l3, vd, vi l5, vi l6, vd, vd, vi l9, vi k0, vd]) ⟨Or.inr rfl, Or.inr rfl, Or.inl rfl, Or.inr rfl, Or.inl rfl, Or.inr rfl, Or.inr rfl, Or.inl rfl, Or.inl rfl, Or.inr rfl, Or.inr rfl, Or.inl rfl, trivial⟩ ?_
        exact hJ 0 (if_pos (Or.inl c128)).symm
      · have s153 := s153 c128
        obtain ⟨h129, h130, h131⟩ := s153
        refine wm_aload_n d_MM_varItem_311 rfl rfl ?_
        refine gf_MM_38 rfl d_MM_varItem_312 h122 ?_
        refine gf_MM_463 rfl d_MM_varItem_315 h123 ?_
        refine wm_iload_n d_MM_varItem_318 rfl rfl ?_
        refine wm_iald d_MM_varItem_319 h126 h129 ?_
        refine wm_aload_n d_MM_varItem_320 rfl rfl ?_
        refine gf_MM_38 rfl d_MM_varItem_321 h122 ?_
        refine gf_MM_461 rfl d_MM_varItem_324 h123 ?_
        refine wm_iload_n d_MM_varItem_327 rfl rfl ?_
        refine wm_iald d_MM_varItem_328 h124 h130 ?_
        refine wm_isub d_MM_varItem_329 ?_
        refine wm_w ?_
        refine wm_sipush d_MM_varItem_330 (by decide) ?_
        refine wm_icmp_ge (tgt := 340) d_MM_varItem_333 rfl i32_w32 ⟨by decide, by decide⟩ (fun c132 => ?_) (fun c132 => ?_)
        · refine wm_iconst d_MM_varItem_340 ?_
          refine wm_less (L' := [vr a0, vi l1, vd, vi l3, vd, vi l5, vi l6, vd, vd, vi l9, vi k0, vd]) ⟨Or.inr rfl, Or.inr rfl, Or.inl rfl, Or.inr rfl, Or.inl rfl, Or.inr rfl, Or.inr rfl, Or.inl rfl, Or.inl rfl, Or.inr rfl, Or.inr rfl, Or.inl rfl, trivial⟩ ?_
          exact hJ 0 (if_pos (Or.inr c132)).symm
        · refine wm_iconst d_MM_varItem_336 ?_
          refine wm_goto (tgt := 341) d_MM_varItem_337 rfl ?_
          refine wm_less (L' := [vr a0, vi l1, vd, vi l3, vd, vi l5, vi l6, vd, vd, vi l9, vi k0, vd]) ⟨Or.inr rfl, Or.inr rfl, Or.inl rfl, Or.inr rfl, Or.inl rfl, Or.inr rfl, Or.inr rfl, Or.inl rfl, Or.inl rfl, Or.inr rfl, Or.inr rfl, Or.inl rfl, trivial⟩ ?_
          exact hJ 1 (if_neg (fun z154 => Or.elim z154 c128 c132)).symm
    · replace h := h.2 c104
      obtain ⟨h156, h⟩ := h
      obtain ⟨h157, h⟩ := h
      obtain ⟨h158, h⟩ := h
      obtain ⟨M159, e160⟩ : ∃ M159, M159 = mUI M (mR M (mR M a0 10) 14) (Int.toNat l3) 0 := ⟨_, rfl⟩
      replace h := h M159 e160
      obtain ⟨h161, h⟩ := h
      obtain ⟨h162, h⟩ := h
      obtain ⟨h163, h⟩ := h
      obtain ⟨M164, e165⟩ : ∃ M164, M164 = mUI M159 (mR M159 (mR M159 a0 10) 15) (Int.toNat l3) 1 := ⟨_, rfl⟩
      replace h := h M164 e165
      refine wm_aload_n d_MM_varItem_230 rfl rfl ?_
      refine gf_MM_38 rfl d_MM_varItem_231 h99 ?_
      refine gf_MM_461 rfl d_MM_varItem_234 h156 ?_
      refine wm_iload_n d_MM_varItem_237 rfl rfl ?_
      refine wm_iconst d_MM_varItem_238 ?_
      have hOM159 : mOk M159 := by rw [e160]; exact mOk_UI hO ⟨by decide, by decide⟩
      refine wm_iastE d_MM_varItem_239 h157 h158 ⟨by decide, by decide⟩ e160 ?_
      refine wm_aload_n d_MM_varItem_240 rfl rfl ?_
      refine gf_MM_38 rfl d_MM_varItem_241 (by rw [e160]; exact h99) ?_
      refine gf_MM_463 rfl d_MM_varItem_244 h161 ?_
      refine wm_iload_n d_MM_varItem_247 rfl rfl ?_
      refine wm_iconst d_MM_varItem_248 ?_
      have hOM164 : mOk M164 := by rw [e165]; exact mOk_UI hOM159 ⟨by decide, by decide⟩
      refine wm_iastE d_MM_varItem_249 h162 h163 ⟨by decide, by decide⟩ e165 ?_
      refine wm_goto (tgt := 369) d_MM_varItem_250 rfl ?_
      refine wm_less (L' := [vr a0, vi l1, vd, vi l3, vd, vi l5, vi l6, vd, vd, vd, vi k0, vd]) ⟨Or.inr rfl, Or.inr rfl, Or.inl rfl, Or.inr rfl, Or.inl rfl, Or.inr rfl, Or.inr rfl, Or.inl rfl, Or.inl rfl, Or.inl rfl, Or.inr rfl, Or.inl rfl, trivial⟩ ?_
      exact h
  · replace h := h.2 c102
    refine wm_return d_MM_varItem_224 rfl ?_
    exact ⟨rfl, h⟩
end
section
/-! The grammar as a machine over words: its steps, what it reaches, what it refuses. -/
/-- levels that are open -/
def slv (st : List Int) : Int := (c75 st : Int) - c76 st
/-- one step before the word x: none if it is refused; else the pile, and how many words were taken -/
def mst (x : Int) : List Int → Option (List Int × Nat)
  | [] => none
  | y :: r => if y = 75 then some (r, 0) else if y < 50 then (if y = x then some (r, 1) else none) else
    match ex y x with
    | none => none
    | some u => if dlv y u.1 = 1 ∧ 40 ≤ slv (y :: r) then none else some (u.1 ++ r, u.2)
section MA
variable {w : Nat → Int} {x y : Int} {r st : List Int} {k : Nat}
theorem mst_c : mst x (y :: r) = if y = 75 then some (r, 0) else if y < 50 then (if y = x then some (r, 1) else none) else
    match ex y x with
    | none => none
    | some u => if dlv y u.1 = 1 ∧ 40 ≤ slv (y :: r) then none else some (u.1 ++ r, u.2) := rfl
theorem mst_75 : mst x (75 :: r) = some (r, 0) := by rw [mst_c, if_pos rfl]
theorem mst_t (h : y < 50) (e : y = x) : mst x (y :: r) = some (r, 1) := by rw [mst_c, if_neg (by omega), if_pos h, if_pos e]
theorem mst_tn (h : y < 50) (e : y ≠ x) : mst x (y :: r) = none := by rw [mst_c, if_neg (by omega), if_pos h, if_neg e]
theorem mst_n (h : 50 ≤ y) (h5 : y ≠ 75) {ys : List Int} {t : Nat} (he : ex y x = some (ys, t)) (hd : dlv y ys ≠ 1 ∨ slv (y :: r) < 40) : mst x (y :: r) = some (ys ++ r, t) := by
  rw [mst_c, if_neg h5, if_neg (by omega), he]
  show (if dlv y ys = 1 ∧ 40 ≤ slv (y :: r) then none else some (ys ++ r, t)) = some (ys ++ r, t)
  rw [if_neg (by omega)]
theorem mst_no (h : 50 ≤ y) (h5 : y ≠ 75) (he : ex y x = none) : mst x (y :: r) = none := by
  rw [mst_c, if_neg h5, if_neg (by omega), he]
theorem mst_deep (h : 50 ≤ y) (h5 : y ≠ 75) {ys : List Int} {t : Nat} (he : ex y x = some (ys, t)) (hd : dlv y ys = 1) (hl : 40 ≤ slv (y :: r)) : mst x (y :: r) = none := by
  rw [mst_c, if_neg h5, if_neg (by omega), he]
  show (if dlv y ys = 1 ∧ 40 ≤ slv (y :: r) then none else some (ys ++ r, t)) = none
  rw [if_pos ⟨hd, hl⟩]
/-- n steps from the pile st at word k -/
def mit (w : Nat → Int) : Nat → List Int → Nat → Option (List Int × Nat)
  | 0, st, k => some (st, k)
  | n + 1, st, k => match mst (w k) st with
    | none => none
    | some u => mit w n u.1 (k + u.2)
/-- the machine comes from here to there -/
def Rc (w : Nat → Int) (st : List Int) (k : Nat) (st' : List Int) (k' : Nat) : Prop := ∃ n, mit w n st k = some (st', k')
/-- it refuses word q -/
def Rf (w : Nat → Int) (st : List Int) (k q : Nat) : Prop := ∃ st', Rc w st k st' q ∧ st' ≠ [] ∧ mst (w q) st' = none
theorem mit_s {n : Nat} {st1 : List Int} {t : Nat} (h : mst (w k) st = some (st1, t)) : mit w (n + 1) st k = mit w n st1 (k + t) := by
  show (match mst (w k) st with | none => none | some u => mit w n u.1 (k + u.2)) = _
  rw [h]
theorem mit_add {m : Nat} : ∀ (n : Nat) {st st1 : List Int} {k k1 : Nat}, mit w n st k = some (st1, k1) → mit w (n + m) st k = mit w m st1 k1
  | 0, st, st1, k, k1, h => by
    have e : (some (st, k) : Option (List Int × Nat)) = some (st1, k1) := h
    injection e with e
    injection e with e1 e2
    rw [← e1, ← e2, Nat.zero_add]
  | n + 1, st, st1, k, k1, h => by
    rw [show n + 1 + m = (n + m) + 1 by first | rfl | omega]
    cases q : mst (w k) st with
    | none =>
      have : mit w (n + 1) st k = none := by
        show (match mst (w k) st with | none => none | some u => mit w n u.1 (k + u.2)) = _
        rw [q]
      rw [this] at h
      cases h
    | some u =>
      obtain ⟨a, b⟩ := u
      rw [mit_s q] at h ⊢
      exact mit_add n h
theorem Rc.refl : Rc w st k st k := ⟨0, rfl⟩
theorem Rc.one {st1 : List Int} {t : Nat} (h : mst (w k) st = some (st1, t)) : Rc w st k st1 (k + t) := ⟨1, by rw [mit_s h]; rfl⟩
theorem Rc.zero {st1 : List Int} (h : mst (w k) st = some (st1, 0)) : Rc w st k st1 k := Rc.one h
theorem Rc.trans {s1 s2 : List Int} {k1 k2 : Nat} (h1 : Rc w st k s1 k1) (h2 : Rc w s1 k1 s2 k2) : Rc w st k s2 k2 := by
  obtain ⟨n, h1⟩ := h1
  obtain ⟨m, h2⟩ := h2
  exact ⟨n + m, by rw [mit_add n h1]; exact h2⟩
theorem Rf.of (h : mst (w k) (y :: r) = none) : Rf w (y :: r) k k := ⟨y :: r, Rc.refl, by simp, h⟩
theorem Rc.rf {s1 : List Int} {k1 q : Nat} (h : Rc w st k s1 k1) (f : Rf w s1 k1 q) : Rf w st k q := by
  obtain ⟨s, a, b⟩ := f
  exact ⟨s, h.trans a, b⟩
theorem mit_stop {m : Nat} (h : mst (w k) st = none) {u : List Int × Nat} (q : mit w m st k = some u) : m = 0 := by
  cases m with
  | zero => rfl
  | succ m =>
    have : mit w (m + 1) st k = none := by
      show (match mst (w k) st with | none => none | some u => mit w m u.1 (k + u.2)) = _
      rw [h]
    rw [this] at q
    cases q
/-- where it stops is one place -/
theorem Rc.same {s1 s2 : List Int} {k1 k2 : Nat} (h1 : Rc w st k s1 k1) (e1 : mst (w k1) s1 = none) (h2 : Rc w st k s2 k2) (e2 : mst (w k2) s2 = none) : s1 = s2 ∧ k1 = k2 := by
  obtain ⟨n, h1⟩ := h1
  obtain ⟨m, h2⟩ := h2
  by_cases c : n ≤ m
  · have q := mit_add (m := m - n) n h1
    rw [show n + (m - n) = m by first | rfl | omega, h2] at q
    have z := mit_stop e1 q.symm
    rw [z] at q
    have e : (some (s2, k2) : Option (List Int × Nat)) = some (s1, k1) := q
    injection e with e
    injection e with a b
    exact ⟨a.symm, b.symm⟩
  · have q := mit_add (m := n - m) m h2
    rw [show m + (n - m) = n by first | rfl | omega, h1] at q
    have z := mit_stop e2 q.symm
    omega
theorem Rf.same {q1 q2 : Nat} (h1 : Rf w st k q1) (h2 : Rf w st k q2) : q1 = q2 := by
  obtain ⟨s1, a1, -, c1⟩ := h1
  obtain ⟨s2, a2, -, c2⟩ := h2
  exact (a1.same c1 a2 c2).2
theorem Rf.not {q k1 : Nat} (h1 : Rf w st k q) (h2 : Rc w st k [] k1) : False := by
  obtain ⟨s1, a1, b1, c1⟩ := h1
  exact b1 (a1.same c1 h2 rfl).1
end MA
/-! THE CLASS'S OPEN OPERATIONS, and the pile that belongs to them. Operations by the class's numbers, the latest first. -/
/-- how strong an operand may stand behind an operation -/
def rsq (o : Int) : Nat := if o = 40 ∨ (27 ≤ o ∧ o ≤ 29) then 0 else if o = 25 ∨ o = 26 then 1 else if 19 ≤ o ∧ o ≤ 24 then 2 else if o = 41 ∨ o = 30 then 3 else if o = 31 then 4 else 6
/-- how strong it makes what it joins -/
def cst (o : Int) : Nat := if 27 ≤ o ∧ o ≤ 29 then 1 else if o = 25 ∨ o = 26 then 2 else if (19 ≤ o ∧ o ≤ 24) ∨ o = 41 then 3 else if o = 30 then 4 else if o = 31 then 5 else if o = 33 ∨ o = 42 then 6 else 0
/-- what is wanted behind its operand -/
def hdT (o : Int) : List Int := if 27 ≤ o ∧ o ≤ 29 then [72] else if o = 25 ∨ o = 26 then [70] else if 19 ≤ o ∧ o ≤ 24 then [] else if o = 41 ∨ o = 40 ∨ o = 42 then [75] else if o = 30 then [66] else if o = 31 then [64] else if o = 37 then [37, 75] else if o = 15 ∨ o = 16 then [74, 37, 75] else [33, 61, 75]
def cdq (o : Int) : Nat := if o = 15 ∨ o = 16 ∨ o = 33 ∨ o = 37 ∨ o = 40 ∨ o = 41 ∨ o = 42 then 1 else 0
def opq (o : Int) : Prop := o = 15 ∨ o = 16 ∨ (19 ≤ o ∧ o ≤ 31) ∨ o = 33 ∨ o = 37 ∨ o = 40 ∨ o = 41 ∨ o = 42
def rsl (q : Nat) : List Int → Nat
  | [] => q
  | o :: _ => rsq o
/-- the rests from strength a up to b -/
def rst (a b : Nat) : List Int := ([72, 70, 68, 66, 64, 62].take b).drop a
/-- what stands below the operand that is read or wanted; z below the rule, q its strength -/
def gyT (z : List Int) (q : Nat) : List Int → List Int
  | [] => z
  | o :: t => hdT o ++ (rst (cst o) (rsl q t) ++ gyT z q t)
def gyR (z : List Int) (q c : Nat) (os : List Int) : List Int := rst c (rsl q os) ++ gyT z q os
def ntq (c : Nat) : Int := if c = 0 then 73 else if c = 1 then 71 else if c = 2 then 69 else if c = 3 then 67 else if c = 4 then 65 else if c = 5 then 63 else 61
/-- an operand is wanted -/
def gyW (z : List Int) (q : Nat) (os : List Int) : List Int := ntq (rsl q os) :: gyT z q os
/-- operations stand one above another as they may -/
def woq (q : Nat) : List Int → Prop
  | [] => True
  | o :: t => opq o ∧ cst o ≤ rsl q t ∧ woq q t
def lvs : List Int → Nat
  | [] => 0
  | o :: t => cdq o + lvs t
/-- how strong the operation of a word is -/
def lwx (x : Int) : Nat := if 26 ≤ x ∧ x ≤ 28 then 1 else if x = 24 ∨ x = 25 then 2 else if 18 ≤ x ∧ x ≤ 23 then 3 else if x = 29 then 4 else if x = 30 then 5 else if x = 32 then 6 else 0
def rsy (c : Nat) : Int := if c = 0 then 72 else if c = 1 then 70 else if c = 2 then 68 else if c = 3 then 66 else if c = 4 then 64 else 62
section MB
variable {w : Nat → Int} {S z : List Int} {k q : Nat} {os t : List Int} {o : Int}
theorem rst_cons {a b : Nat} (hb : b ≤ 6) (h : a < b) : rst a b = rsy a :: rst (a + 1) b := by
  have g : b = 1 ∨ b = 2 ∨ b = 3 ∨ b = 4 ∨ b = 5 ∨ b = 6 := by omega
  have e : a = 0 ∨ a = 1 ∨ a = 2 ∨ a = 3 ∨ a = 4 ∨ a = 5 := by omega
  rcases e with e | e | e | e | e | e <;> rcases g with g | g | g | g | g | g <;> first | omega | (rw [e, g]; rfl)
theorem rst_nil {a b : Nat} (h : b ≤ a) : rst a b = [] := by
  unfold rst
  exact List.drop_eq_nil_of_le (by rw [List.length_take]; omega)
theorem rsq_le (o : Int) : rsq o ≤ 6 := by unfold rsq; (repeat' split) <;> omega
theorem cst_le (o : Int) : cst o ≤ 6 := by unfold cst; (repeat' split) <;> omega
theorem rsl_le (hq : q ≤ 6) : rsl q os ≤ 6 := by
  cases os with
  | nil => exact hq
  | cons o t => exact rsq_le o
theorem gyT_c : gyT z q (o :: t) = hdT o ++ gyR z q (cst o) t := rfl
/-- a rest that no word goes on with -/
theorem rc_drop {c : Nat} (hc : c < 6) (h : lwx (w k) ≠ c + 1) : Rc w (rsy c :: S) k S k := by
  have e : c = 0 ∨ c = 1 ∨ c = 2 ∨ c = 3 ∨ c = 4 ∨ c = 5 := by omega
  unfold lwx at h
  rcases e with e | e | e | e | e | e <;> subst e
  · exact Rc.zero (mst_n (y := 72) (ys := []) (by decide) (by decide) (by rw [ex_72]; unfold ex72; rw [if_neg (by intro c; rw [if_pos (by omega)] at h; omega)]) (Or.inl (by decide)))
  · exact Rc.zero (mst_n (y := 70) (ys := []) (by decide) (by decide) (by rw [ex_70]; unfold ex70; rw [if_neg (by intro c; rw [if_neg (by omega), if_pos (by omega)] at h; omega)]) (Or.inl (by decide)))
  · exact Rc.zero (mst_n (y := 68) (ys := []) (by decide) (by decide) (by rw [ex_68]; unfold ex68; rw [if_neg (by intro c; rw [if_neg (by omega), if_neg (by omega), if_pos (by omega)] at h; omega)]) (Or.inl (by decide)))
  · exact Rc.zero (mst_n (y := 66) (ys := []) (by decide) (by decide) (by rw [ex_66]; unfold ex66; rw [if_neg (by intro c; rw [if_neg (by omega), if_neg (by omega), if_neg (by omega), if_pos (by omega)] at h; omega)]) (Or.inl (by decide)))
  · exact Rc.zero (mst_n (y := 64) (ys := []) (by decide) (by decide) (by rw [ex_64]; unfold ex64; rw [if_neg (by intro c; rw [if_neg (by omega), if_neg (by omega), if_neg (by omega), if_neg (by omega), if_pos (by omega)] at h; omega)]) (Or.inl (by decide)))
  · exact Rc.zero (mst_n (y := 62) (ys := []) (by decide) (by decide) (by rw [ex_62]; unfold ex62; rw [if_neg (by intro c; rw [if_neg (by omega), if_neg (by omega), if_neg (by omega), if_neg (by omega), if_neg (by omega), if_pos (by omega)] at h; omega)]) (Or.inl (by decide)))
theorem rc_drops {b : Nat} (hb : b ≤ 6) : ∀ (n a : Nat), b - a = n → (lwx (w k) ≤ a ∨ b < lwx (w k)) → Rc w (rst a b ++ S) k S k
  | 0, a, h, _ => by rw [rst_nil (by omega)]; exact Rc.refl
  | n + 1, a, h, hl => by
    rw [rst_cons hb (by omega)]
    exact (rc_drop (S := rst (a + 1) b ++ S) (by omega) (by omega)).trans (rc_drops hb n (a + 1) (by omega) (by omega))
theorem rc_to {a b c : Nat} (hb : b ≤ 6) (hac : a ≤ c) (hcb : c ≤ b) (hl : lwx (w k) ≤ a ∨ c < lwx (w k)) : Rc w (rst a b ++ S) k (rst c b ++ S) k := by
  have e : rst a b = rst a c ++ rst c b := by
    have h : ∀ n a, c - a = n → a ≤ c → rst a b = rst a c ++ rst c b := by
      intro n
      induction n with
      | zero => intro a h1 h2; rw [rst_nil (a := a) (b := c) (by omega), show a = c by first | rfl | omega]; rfl
      | succ n ih => intro a h1 h2; rw [rst_cons (a := a) hb (by omega), rst_cons (a := a) (b := c) (by omega) (by omega), ih (a + 1) (by omega) (by omega)]; rfl
    exact h _ a rfl hac
  rw [e, List.append_assoc]
  exact rc_drops (by omega) _ a rfl hl
/-- the wanted sign comes down -/
theorem rc_desc1 {c : Nat} (hc : c < 6) (h : w k ≠ 31 ∨ c ≠ 2) : Rc w (ntq (c + 1) :: S) k (ntq c :: rsy c :: S) k := by
  have e : c = 0 ∨ c = 1 ∨ c = 2 ∨ c = 3 ∨ c = 4 ∨ c = 5 := by omega
  rcases e with e | e | e | e | e | e <;> subst e
  · exact Rc.zero (mst_n (y := 71) (ys := [73, 72]) (by decide) (by decide) rfl (Or.inl (by decide)))
  · exact Rc.zero (mst_n (y := 69) (ys := [71, 70]) (by decide) (by decide) rfl (Or.inl (by decide)))
  · exact Rc.zero (mst_n (y := 67) (ys := [69, 68]) (by decide) (by decide) (by rw [ex_67]; unfold ex67; rw [if_neg (by omega)]) (Or.inl (by decide)))
  · exact Rc.zero (mst_n (y := 65) (ys := [67, 66]) (by decide) (by decide) rfl (Or.inl (by decide)))
  · exact Rc.zero (mst_n (y := 63) (ys := [65, 64]) (by decide) (by decide) rfl (Or.inl (by decide)))
  · exact Rc.zero (mst_n (y := 61) (ys := [63, 62]) (by decide) (by decide) rfl (Or.inl (by decide)))
theorem rc_desc {a : Nat} : ∀ (n b : Nat), b - a = n → a ≤ b → b ≤ 6 → (w k ≠ 31 ∨ 3 ≤ a ∨ b ≤ 2) → ∀ S, Rc w (ntq b :: S) k (ntq a :: (rst a b ++ S)) k
  | 0, b, h, h1, _, _, S => by rw [rst_nil (by omega), show b = a by first | rfl | omega]; exact Rc.refl
  | n + 1, b, h, h1, h6, hx, S => by
    have e := rc_desc1 (w := w) (k := k) (S := S) (c := b - 1) (by omega) (by omega)
    rw [show b - 1 + 1 = b by first | rfl | omega] at e
    refine e.trans ?_
    have r := rc_desc (a := a) n (b - 1) (by omega) (by omega) (by omega) (by omega) (rsy (b - 1) :: S)
    have hh : rst a (b - 1) ++ rsy (b - 1) :: S = rst a b ++ S := by
      have g : ∀ m a, b - 1 - a = m → a ≤ b - 1 → rst a b = rst a (b - 1) ++ [rsy (b - 1)] := by
        intro m
        induction m with
        | zero => intro a p1 p2; rw [rst_nil (a := a) (b := b - 1) (by omega), show a = b - 1 by first | rfl | omega, rst_cons h6 (by omega), rst_nil (by omega)]; rfl
        | succ m ih => intro a p1 p2; rw [rst_cons (a := a) h6 (by omega), rst_cons (a := a) (b := b - 1) (by omega) (by omega), ih (a + 1) (by omega) (by omega)]; rfl
      rw [g _ a rfl (by omega), List.append_assoc]
      rfl
    rw [hh] at r
    exact r
theorem slv_app (u v : List Int) : slv (u ++ v) = slv u + slv v := by unfold slv; rw [c75_app, c76_app]; omega
theorem slv_rst {b : Nat} (hb : b ≤ 6) : ∀ (n a : Nat), b - a = n → slv (rst a b) = 0
  | 0, a, h => by rw [rst_nil (by omega)]; rfl
  | n + 1, a, h => by
    rw [rst_cons hb (by omega), show rsy a :: rst (a + 1) b = [rsy a] ++ rst (a + 1) b from rfl, slv_app, slv_rst hb n (a + 1) (by omega)]
    have e : a = 0 ∨ a = 1 ∨ a = 2 ∨ a = 3 ∨ a = 4 ∨ a = 5 := by omega
    rcases e with e | e | e | e | e | e <;> subst e <;> decide
theorem slv_hdT {o : Int} (h : opq o) : slv (hdT o) = cdq o := by
  unfold opq at h
  unfold hdT cdq
  by_cases c1 : 27 ≤ o ∧ o ≤ 29
  · rw [if_pos c1, if_neg (by omega)]; decide
  · rw [if_neg c1]
    by_cases c2 : o = 25 ∨ o = 26
    · rw [if_pos c2, if_neg (by omega)]; decide
    · rw [if_neg c2]
      by_cases c3 : 19 ≤ o ∧ o ≤ 24
      · rw [if_pos c3, if_neg (by omega)]; decide
      · rw [if_neg c3]
        by_cases c4 : o = 41 ∨ o = 40 ∨ o = 42
        · rw [if_pos c4, if_pos (by omega)]; decide
        · rw [if_neg c4]
          by_cases c5 : o = 30
          · rw [if_pos c5, if_neg (by omega)]; decide
          · rw [if_neg c5]
            by_cases c6 : o = 31
            · rw [if_pos c6, if_neg (by omega)]; decide
            · rw [if_neg c6]
              by_cases c7 : o = 37
              · rw [if_pos c7, if_pos (by omega)]; decide
              · rw [if_neg c7]
                by_cases c8 : o = 15 ∨ o = 16
                · rw [if_pos c8, if_pos (by omega)]; decide
                · rw [if_neg c8, if_pos (by omega)]; decide
theorem slv_T (hq : q ≤ 6) : ∀ {os : List Int}, woq q os → slv (gyT z q os) = slv z + lvs os
  | [], _ => by show slv z = slv z + ((0 : Nat) : Int); omega
  | o :: t, h => by
    rw [gyT_c, slv_app, slv_hdT h.1]
    unfold gyR
    rw [slv_app, slv_rst (rsl_le hq) _ _ rfl, slv_T hq h.2.2]
    show _ = slv z + ((cdq o + lvs t : Nat) : Int)
    omega
theorem slv_R {c : Nat} (hq : q ≤ 6) (h : woq q os) : slv (gyR z q c os) = slv z + lvs os := by
  unfold gyR
  rw [slv_app, slv_rst (rsl_le hq) _ _ rfl, slv_T hq h]
  omega
theorem slv_nt {c : Nat} {S : List Int} : slv (ntq c :: S) = slv S := by
  rw [show ntq c :: S = [ntq c] ++ S from rfl, slv_app]
  have : slv [ntq c] = 0 := by unfold ntq; (repeat' split) <;> decide
  omega
end MB
end
section
/-! Steps of the class's reader as steps of the grammar's machine. -/
section SM
variable {w : Nat → Int} {S z : List Int} {k q c : Nat} {os t : List Int} {o : Int}
theorem ex73_0 {x : Int} (h : x = 1 ∨ x = 2 ∨ x = 12 ∨ x = 13) : ex 73 x = some ([], 1) := by rw [ex_73]; unfold ex73; rw [if_pos h]
theorem ex73_l {x : Int} (h : x = 14 ∨ x = 15) : ex 73 x = some ([76, 61, 74, 37, 75], 1) := by rw [ex_73]; unfold ex73; rw [if_neg (by omega), if_pos h]
theorem ex73_m {x : Int} (h : x = 25) : ex 73 x = some ([73, 75], 1) := by rw [ex_73]; unfold ex73; rw [if_neg (by omega), if_neg (by omega), if_pos h]
theorem ex73_p {x : Int} (h : x = 36) : ex 73 x = some ([61, 37, 75], 1) := by rw [ex_73]; unfold ex73; rw [if_neg (by omega), if_neg (by omega), if_neg (by omega), if_pos h]
theorem ex73_n {x : Int} (h : ¬ (x = 1 ∨ x = 2 ∨ x = 12 ∨ x = 13 ∨ x = 14 ∨ x = 15 ∨ x = 25 ∨ x = 36)) : ex 73 x = none := by rw [ex_73]; unfold ex73; rw [if_neg (by omega), if_neg (by omega), if_neg (by omega), if_neg (by omega)]
/-- down to the tightest -/
theorem rc_73 (hq : q ≤ 6) (h : w k ≠ 31 ∨ rsl q os ≤ 2) : Rc w (gyW z q os) k (73 :: gyR z q 0 os) k := by
  have := rc_desc (w := w) (k := k) (a := 0) _ (rsl q os) rfl (by omega) (rsl_le hq) (by omega) (gyT z q os)
  exact this
theorem slv_73 (hq : q ≤ 6) (hw : woq q os) : slv (73 :: gyR z q 0 os) = slv z + lvs os := by
  have := slv_nt (c := 0) (S := gyR z q 0 os)
  rw [slv_R hq hw] at this
  exact this
theorem sim_val (hq : q ≤ 6) (hx : w k = 1 ∨ w k = 2 ∨ w k = 12 ∨ w k = 13) : Rc w (gyW z q os) k (gyR z q 0 os) (k + 1) :=
  (rc_73 hq (Or.inl (by omega))).trans (Rc.one (mst_n (ys := []) (by decide) (by decide) (ex73_0 hx) (Or.inl (by decide))))
theorem sim_open (hq : q ≤ 6) (hw : woq q os) (hx : w k = 36) (hl : slv z + lvs os < 40) : Rc w (gyW z q os) k (gyW z q (37 :: os)) (k + 1) :=
  (rc_73 hq (Or.inl (by omega))).trans (Rc.one (mst_n (ys := [61, 37, 75]) (by decide) (by decide) (ex73_p hx) (Or.inr (by rw [slv_73 hq hw]; exact hl))))
theorem sim_open_no (hq : q ≤ 6) (hw : woq q os) (hx : w k = 36) (hl : ¬ slv z + lvs os < 40) : Rf w (gyW z q os) k k :=
  (rc_73 hq (Or.inl (by omega))).rf (Rf.of (mst_deep (ys := [61, 37, 75]) (t := 1) (by decide) (by decide) (ex73_p hx) (by decide) (by rw [slv_73 hq hw]; omega)))
theorem sim_neg (hq : q ≤ 6) (hw : woq q os) (hx : w k = 25) (hl : slv z + lvs os < 40) : Rc w (gyW z q os) k (gyW z q (40 :: os)) (k + 1) :=
  (rc_73 hq (Or.inl (by omega))).trans (Rc.one (mst_n (ys := [73, 75]) (by decide) (by decide) (ex73_m hx) (Or.inr (by rw [slv_73 hq hw]; exact hl))))
theorem sim_neg_no (hq : q ≤ 6) (hw : woq q os) (hx : w k = 25) (hl : ¬ slv z + lvs os < 40) : Rf w (gyW z q os) k k :=
  (rc_73 hq (Or.inl (by omega))).rf (Rf.of (mst_deep (ys := [73, 75]) (t := 1) (by decide) (by decide) (ex73_m hx) (by decide) (by rw [slv_73 hq hw]; omega)))
theorem rc_67 (hq : q ≤ 6) (h3 : 3 ≤ rsl q os) : Rc w (gyW z q os) k (67 :: gyR z q 3 os) k := rc_desc (w := w) (k := k) (a := 3) _ (rsl q os) rfl h3 (rsl_le hq) (by omega) (gyT z q os)
theorem slv_67 (hq : q ≤ 6) (hw : woq q os) : slv (67 :: gyR z q 3 os) = slv z + lvs os := by
  have := slv_nt (c := 3) (S := gyR z q 3 os)
  rw [slv_R hq hw] at this
  exact this
theorem ex67_n {x : Int} (h : x = 31) : ex 67 x = some ([67, 75], 1) := by rw [ex_67]; unfold ex67; rw [if_pos h]
theorem sim_not (hq : q ≤ 6) (hw : woq q os) (h3 : 3 ≤ rsl q os) (hx : w k = 31) (hl : slv z + lvs os < 40) : Rc w (gyW z q os) k (gyW z q (41 :: os)) (k + 1) :=
  (rc_67 hq h3).trans (Rc.one (mst_n (ys := [67, 75]) (by decide) (by decide) (ex67_n hx) (Or.inr (by rw [slv_67 hq hw]; exact hl))))
theorem sim_not_no (hq : q ≤ 6) (hw : woq q os) (hx : w k = 31) (hl : ¬ (3 ≤ rsl q os ∧ slv z + lvs os < 40)) : Rf w (gyW z q os) k k := by
  by_cases h3 : 3 ≤ rsl q os
  · exact (rc_67 hq h3).rf (Rf.of (mst_deep (ys := [67, 75]) (t := 1) (by decide) (by decide) (ex67_n hx) (by decide) (by rw [slv_67 hq hw]; omega)))
  · exact (rc_73 hq (Or.inr (by omega))).rf (Rf.of (mst_no (by decide) (by decide) (ex73_n (by omega))))
theorem sim_no (hq : q ≤ 6) (hx : ¬ (w k = 1 ∨ w k = 2 ∨ w k = 12 ∨ w k = 13 ∨ w k = 14 ∨ w k = 15 ∨ w k = 25 ∨ w k = 31 ∨ w k = 36)) : Rf w (gyW z q os) k k :=
  (rc_73 hq (Or.inl (by omega))).rf (Rf.of (mst_no (by decide) (by decide) (ex73_n (by omega))))
theorem rc_76 (hq : q ≤ 6) (hx : w k = 14 ∨ w k = 15) : Rc w (gyW z q os) k (76 :: 61 :: 74 :: 37 :: 75 :: gyR z q 0 os) (k + 1) :=
  (rc_73 hq (Or.inl (by omega))).trans (Rc.one (mst_n (ys := [76, 61, 74, 37, 75]) (by decide) (by decide) (ex73_l hx) (Or.inl (by decide))))
theorem slv_76 (hq : q ≤ 6) (hw : woq q os) : slv (76 :: 61 :: 74 :: 37 :: 75 :: gyR z q 0 os) = slv z + lvs os := by
  have : slv ([76, 61, 74, 37, 75] ++ gyR z q 0 os) = slv [76, 61, 74, 37, 75] + slv (gyR z q 0 os) := slv_app _ _
  rw [slv_R hq hw] at this
  rw [show slv [76, 61, 74, 37, 75] = 0 by decide, Int.zero_add] at this
  exact this
theorem ex76_p {x : Int} (h : x = 36) : ex 76 x = some ([], 1) := by rw [ex_76]; unfold ex76; rw [if_pos h]
theorem ex76_n {x : Int} (h : x ≠ 36) : ex 76 x = none := by rw [ex_76]; unfold ex76; rw [if_neg h]
theorem sim_list {o : Int} (ho : o = 15 ∨ o = 16) (hq : q ≤ 6) (hw : woq q os) (hx : w k = 14 ∨ w k = 15) (h1 : w (k + 1) = 36) (hl : slv z + lvs os < 40) : Rc w (gyW z q os) k (gyW z q (o :: os)) (k + 2) := by
  have e : gyW z q (o :: os) = 61 :: 74 :: 37 :: 75 :: gyR z q 0 os := by rcases ho with e | e <;> subst e <;> rfl
  rw [e]
  exact (rc_76 hq hx).trans (Rc.one (k := k + 1) (mst_n (ys := []) (by decide) (by decide) (ex76_p h1) (Or.inr (by rw [slv_76 hq hw]; exact hl))))
theorem sim_list_no (hq : q ≤ 6) (hw : woq q os) (hx : w k = 14 ∨ w k = 15) (h1 : ¬ (w (k + 1) = 36 ∧ slv z + lvs os < 40)) : Rf w (gyW z q os) k (k + 1) := by
  by_cases h : w (k + 1) = 36
  · exact (rc_76 hq hx).rf (Rf.of (mst_deep (ys := []) (t := 1) (by decide) (by decide) (ex76_p h) (by decide) (by rw [slv_76 hq hw]; omega)))
  · exact (rc_76 hq hx).rf (Rf.of (mst_no (by decide) (by decide) (ex76_n h)))
/-- how strong the operand counts when an operation has been grouped -/
def pst (o : Int) : Nat := if 25 ≤ o ∧ o ≤ 31 then rsq o else cst o
theorem rst_up {a b : Nat} (hb : b ≤ 6) (h : a + 1 ≤ b) : rsy a :: rst (a + 1) b = rst a b := (rst_cons hb (by omega)).symm
theorem gyR_c : gyR z q c (o :: t) = rst c (rsq o) ++ (hdT o ++ gyR z q (cst o) t) := rfl
theorem sim_pop (hq : q ≤ 6) (hw : woq q (o :: t)) (ho : (19 ≤ o ∧ o ≤ 31) ∨ o = 40 ∨ o = 41 ∨ o = 42) (hl : lwx (w k) ≤ c ∨ rsq o < lwx (w k)) : Rc w (gyR z q c (o :: t)) k (gyR z q (pst o) t) k := by
  rw [gyR_c]
  refine (rc_drops (rsq_le o) _ c rfl hl).trans ?_
  obtain ⟨-, h2, -⟩ := hw
  by_cases c1 : 25 ≤ o ∧ o ≤ 31
  · have e : o = 25 ∨ o = 26 ∨ o = 27 ∨ o = 28 ∨ o = 29 ∨ o = 30 ∨ o = 31 := by omega
    have hh : hdT o ++ gyR z q (cst o) t = gyR z q (pst o) t := by
      unfold gyR
      have r := rst_up (a := rsq o) (b := rsl q t) (rsl_le hq) (by
        rcases e with e | e | e | e | e | e | e <;> subst e <;> exact h2)
      rcases e with e | e | e | e | e | e | e <;> subst e <;> exact congrArg (fun u => u ++ gyT z q t) r
    rw [hh]
    exact Rc.refl
  · have ep : pst o = cst o := by unfold pst; rw [if_neg c1]
    rw [ep]
    by_cases c2 : 19 ≤ o ∧ o ≤ 24
    · have : hdT o = [] := by unfold hdT; rw [if_neg (by omega), if_neg (by omega), if_pos c2]
      rw [this]
      exact Rc.refl
    · have : hdT o = [75] := by unfold hdT; rw [if_neg (by omega), if_neg (by omega), if_neg (by omega), if_pos (by omega)]
      rw [this]
      exact Rc.zero mst_75
/-- a sign between two operands -/
theorem sim_sign {x : Int} (hq : q ≤ 6) (hx : w k = x) (h1 : 1 ≤ lwx x) (h5 : lwx x ≤ 5) (hc : c < lwx x) (hr : lwx x ≤ rsl q os) : Rc w (gyR z q c os) k (gyW z q ((x + 1) :: os)) (k + 1) := by
  unfold gyR
  have hb := rsl_le (os := os) hq
  refine (rc_to (c := lwx x - 1) hb (by omega) (by omega) (by rw [hx]; omega)).trans ?_
  rw [rst_cons hb (by omega), show lwx x - 1 + 1 = lwx x by first | rfl | omega]
  have hd : ∀ (l : Nat) (ys : List Int), lwx x = l → l - 1 < 6 → ex (rsy (l - 1)) x = some (ys, 1) → (dlv (rsy (l - 1)) ys ≠ 1) → gyW z q ((x + 1) :: os) = ys ++ (rst l (rsl q os) ++ gyT z q os) → Rc w (rsy (lwx x - 1) :: rst (lwx x) (rsl q os) ++ gyT z q os) k (gyW z q ((x + 1) :: os)) (k + 1) := fun l ys e l6 he hv eg => by
    rw [e, eg]
    refine Rc.one (mst_n ?_ ?_ (by rw [hx]; exact he) (Or.inl hv))
    · unfold rsy; (repeat' split) <;> decide
    · unfold rsy; (repeat' split) <;> decide
  have ul : lwx x = lwx x := rfl
  conv at ul => rhs; unfold lwx
  by_cases c1 : 26 ≤ x ∧ x ≤ 28
  · rw [if_pos c1] at ul
    refine hd 1 [73, 72] ul (by decide) ?_ (by decide) ?_
    · show ex 72 x = _; rw [ex_72]; unfold ex72; rw [if_pos (by omega)]
    · have : x = 26 ∨ x = 27 ∨ x = 28 := by omega
      rcases this with e | e | e <;> subst e <;> rfl
  · rw [if_neg c1] at ul
    by_cases c2 : x = 24 ∨ x = 25
    · rw [if_pos c2] at ul
      refine hd 2 [71, 70] ul (by decide) ?_ (by decide) ?_
      · show ex 70 x = _; rw [ex_70]; unfold ex70; rw [if_pos c2]
      · rcases c2 with e | e <;> subst e <;> rfl
    · rw [if_neg c2] at ul
      by_cases c3 : 18 ≤ x ∧ x ≤ 23
      · rw [if_pos c3] at ul
        refine hd 3 [69] ul (by decide) ?_ (by decide) ?_
        · show ex 68 x = _; rw [ex_68]; unfold ex68; rw [if_pos c3]
        · have : x = 18 ∨ x = 19 ∨ x = 20 ∨ x = 21 ∨ x = 22 ∨ x = 23 := by omega
          rcases this with e | e | e | e | e | e <;> subst e <;> rfl
      · rw [if_neg c3] at ul
        by_cases c4 : x = 29
        · rw [if_pos c4] at ul
          refine hd 4 [67, 66] ul (by decide) ?_ (by decide) ?_
          · show ex 66 x = _; rw [ex_66]; unfold ex66; rw [if_pos c4]
          · subst c4; rfl
        · rw [if_neg c4] at ul
          by_cases c5 : x = 30
          · rw [if_pos c5] at ul
            refine hd 5 [65, 64] ul (by decide) ?_ (by decide) ?_
            · show ex 64 x = _; rw [ex_64]; unfold ex64; rw [if_pos c5]
            · subst c5; rfl
          · rw [if_neg c5] at ul
            split at ul <;> omega
theorem slv_62 (hq : q ≤ 6) (hw : woq q os) : slv (62 :: gyT z q os) = slv z + lvs os := by
  rw [show (62 : Int) :: gyT z q os = [62] ++ gyT z q os from rfl, slv_app, slv_T hq hw, show slv [62] = 0 by decide]
  omega
theorem rc_62 (h6 : rsl q os = 6) (hx : w k = 32) (hc : c ≤ 5) : Rc w (gyR z q c os) k (62 :: gyT z q os) k := by
  unfold gyR
  rw [h6]
  exact rc_to (b := 6) (c := 5) (by decide) hc (by decide) (Or.inr (by rw [hx]; decide))
theorem ex62_a {x : Int} (h : x = 32) : ex 62 x = some ([61, 33, 61, 75], 1) := by rw [ex_62]; unfold ex62; rw [if_pos h]
theorem sim_ask (hq : q ≤ 6) (hw : woq q os) (h6 : rsl q os = 6) (hx : w k = 32) (hc : c ≤ 5) (hl : slv z + lvs os < 40) : Rc w (gyR z q c os) k (gyW z q (33 :: os)) (k + 1) := by
  have e : gyW z q (33 :: os) = [61, 33, 61, 75] ++ gyT z q os := by
    show (61 : Int) :: ([33, 61, 75] ++ (rst 6 (rsl q os) ++ gyT z q os)) = _
    rw [h6]
    rfl
  rw [e]
  exact (rc_62 h6 hx hc).trans (Rc.one (mst_n (by decide) (by decide) (ex62_a hx) (Or.inr (by rw [slv_62 hq hw]; exact hl))))
theorem sim_ask_no (hq : q ≤ 6) (hw : woq q os) (h6 : rsl q os = 6) (hx : w k = 32) (hc : c ≤ 5) (hl : ¬ slv z + lvs os < 40) : Rf w (gyR z q c os) k k :=
  (rc_62 h6 hx hc).rf (Rf.of (mst_deep (t := 1) (by decide) (by decide) (ex62_a hx) (by decide) (by rw [slv_62 hq hw]; omega)))
/-- no sign goes on: all rests go -/
theorem sim_end (hq : q ≤ 6) (hl : lwx (w k) ≤ c ∨ rsl q os < lwx (w k)) : Rc w (gyR z q c os) k (gyT z q os) k := rc_drops (rsl_le hq) _ c rfl hl
theorem sim_close {o : Int} (ho : o = 37 ∨ o = 15 ∨ o = 16) (hx : w k = 37) : Rc w (gyT z q (o :: t)) k (gyR z q 0 t) (k + 1) := by
  have a37 : Rc w (37 :: 75 :: gyR z q 0 t) k (gyR z q 0 t) (k + 1) := (Rc.one (mst_t (by decide) hx.symm)).trans (Rc.zero (k := k + 1) mst_75)
  rcases ho with e | e | e <;> subst e
  · exact a37
  · exact (Rc.zero (mst_n (y := 74) (ys := []) (by decide) (by decide) (by rw [ex_74]; unfold ex74; rw [if_neg (by omega)]) (Or.inl (by decide)))).trans a37
  · exact (Rc.zero (mst_n (y := 74) (ys := []) (by decide) (by decide) (by rw [ex_74]; unfold ex74; rw [if_neg (by omega)]) (Or.inl (by decide)))).trans a37
theorem sim_comma {o : Int} (ho : o = 15 ∨ o = 16) (hx : w k = 35) : Rc w (gyT z q (o :: t)) k (gyW z q (o :: t)) (k + 1) := by
  rcases ho with e | e <;> subst e
  · exact Rc.one (mst_n (y := 74) (ys := [61, 74]) (by decide) (by decide) (by rw [ex_74]; unfold ex74; rw [if_pos hx]) (Or.inl (by decide)))
  · exact Rc.one (mst_n (y := 74) (ys := [61, 74]) (by decide) (by decide) (by rw [ex_74]; unfold ex74; rw [if_pos hx]) (Or.inl (by decide)))
theorem sim_colon (hx : w k = 33) : Rc w (gyT z q (33 :: t)) k (gyW z q (42 :: t)) (k + 1) := Rc.one (mst_t (y := 33) (by decide) hx.symm)
theorem sim_close_no {o : Int} (ho : o = 37 ∨ o = 15 ∨ o = 16 ∨ o = 33) (h1 : o = 37 → w k ≠ 37) (h2 : o = 15 ∨ o = 16 → w k ≠ 37 ∧ w k ≠ 35) (h3 : o = 33 → w k ≠ 33) : Rf w (gyT z q (o :: t)) k k := by
  rcases ho with e | e | e | e
  · subst e
    exact Rf.of (mst_tn (y := 37) (by decide) (fun c => h1 rfl c.symm))
  · have h := h2 (Or.inl e)
    subst e
    exact (Rc.zero (mst_n (y := 74) (ys := []) (by decide) (by decide) (by rw [ex_74]; unfold ex74; rw [if_neg h.2]) (Or.inl (by decide)))).rf (Rf.of (mst_tn (y := 37) (by decide) (fun c => h.1 c.symm)))
  · have h := h2 (Or.inr e)
    subst e
    exact (Rc.zero (mst_n (y := 74) (ys := []) (by decide) (by decide) (by rw [ex_74]; unfold ex74; rw [if_neg h.2]) (Or.inl (by decide)))).rf (Rf.of (mst_tn (y := 37) (by decide) (fun c => h.1 c.symm)))
  · subst e
    exact Rf.of (mst_tn (y := 33) (by decide) (fun c => h3 rfl c.symm))
/-- a second comparison is refused wherever it stands -/
theorem sim_dead (hq : q ≤ 6) (hx : lwx (w k) = 3) (hz : Rf w z k k) : ∀ {os : List Int} {c : Nat}, woq q os → 3 ≤ c → c ≤ rsl q os → Rf w (gyR z q c os) k k
  | [], c, _, h3, hc => (sim_end (os := []) hq (Or.inl (by omega))).rf hz
  | o :: t, c, hw, h3, hc => by
    have hc : c ≤ rsq o := hc
    have hb := (sim_end (z := z) (os := o :: t) (w := w) (k := k) (c := c) hq (Or.inl (by omega)))
    have hx35 : w k ≠ 35 ∧ w k ≠ 37 ∧ w k ≠ 33 := by
      unfold lwx at hx
      refine ⟨?_, ?_, ?_⟩ <;> intro e <;> rw [e] at hx <;> exact absurd hx (by decide)
    obtain ⟨h1, h2, hw'⟩ := hw
    by_cases d1 : o = 37 ∨ o = 15 ∨ o = 16 ∨ o = 33
    · exact hb.rf (sim_close_no d1 (fun _ => hx35.2.1) (fun _ => ⟨hx35.2.1, hx35.1⟩) (fun _ => hx35.2.2))
    · have e : o = 41 ∨ o = 42 ∨ o = 30 ∨ o = 31 := by
        unfold opq at h1
        unfold rsq at hc
        (repeat' split at hc) <;> omega
      refine hb.rf ?_
      rcases e with e | e | e | e <;> subst e
      · exact (Rc.zero (st := 75 :: gyR z q 3 t) mst_75).rf (sim_dead hq hx hz hw' (by decide) h2)
      · exact (Rc.zero (st := 75 :: gyR z q 6 t) mst_75).rf (sim_dead hq hx hz hw' (by decide) h2)
      · exact (rc_drop (S := gyR z q 4 t) (c := 3) (by decide) (by omega)).rf (sim_dead hq hx hz hw' (by decide) h2)
      · exact (rc_drop (S := gyR z q 5 t) (c := 4) (by decide) (by omega)).rf (sim_dead hq hx hz hw' (by decide) h2)
end SM
end
section
/-! What a rule means: kinds, faults, orders, told by the words from i to j - 1. -/
section SE
variable {w : Nat → Int} {i j l m : Nat}
/-- behind a '?': where its ':' stands, seen from i on -/
def cl1 (w : Nat → Int) (i : Nat) : Nat → Nat → Nat
  | 0, m => m
  | f + 1, m => if dp w i m = 0 ∧ aq w i m = 0 ∧ w (i + m) = 33 then m else cl1 w i f (m + 1)
theorem cl1_b : ∀ f m, m ≤ cl1 w i f m ∧ cl1 w i f m ≤ m + f
  | 0, m => ⟨Nat.le_refl _, Nat.le_refl _⟩
  | f + 1, m => by
    have := cl1_b f (m + 1)
    unfold cl1
    split <;> omega
theorem cl1_at (b : Bl w i l) (h : w (i + l) = 33) : ∀ f m, m ≤ l → l ≤ m + f → cl1 w i f m = l
  | 0, m, h1, h2 => by show m = l; omega
  | f + 1, m, h1, h2 => by
    unfold cl1
    by_cases e : m = l
    · rw [if_pos ⟨by rw [e]; exact b.1, by rw [e]; exact b.2.1, by rw [e]; exact h⟩]; exact e
    · rw [if_neg (fun q => (b.2.2.2 m (by omega)).2 q.1 q.2.1 q.2.2)]
      exact cl1_at b h f (m + 1) (by omega) (by omega)
def clq (w : Nat → Int) (m j : Nat) : Nat := (m + 1) + cl1 w (m + 1) (j - (m + 1)) 0
theorem clq_b : m + 1 ≤ clq w m j ∧ clq w m j ≤ (m + 1) + (j - (m + 1)) := by
  have := cl1_b (w := w) (i := m + 1) (j - (m + 1)) 0
  unfold clq
  omega
theorem clq_at {q : Nat} (hm : m + 1 ≤ q) (hq : q < j) (b : Bl w (m + 1) (q - (m + 1))) (h : w q = 33) : clq w m j = q := by
  unfold clq
  rw [cl1_at b (by rw [show m + 1 + (q - (m + 1)) = q by first | rfl | omega]; exact h) _ _ (by omega) (by omega)]
  omega
/-- the last comma outside parentheses: 0 if there is none, else one more than its distance -/
def lcq (w : Nat → Int) (i : Nat) : Nat → Nat
  | 0 => 0
  | l + 1 => if dp w i l = 0 ∧ w (i + l) = 35 then l + 1 else lcq w i l
theorem lcq_le : ∀ l, lcq w i l ≤ l
  | 0 => Nat.le_refl _
  | l + 1 => by
    have := lcq_le l
    unfold lcq
    split <;> omega
theorem lcq_0 : ∀ l, Nx w 35 i l → lcq w i l = 0
  | 0, _ => rfl
  | l + 1, h => by
    unfold lcq
    rw [if_neg (fun q => h l (by omega) q.1 q.2)]
    exact lcq_0 l (fun m hm q => h m (by omega) q)
theorem lcq_at {p : Nat} (hp : dp w i p = 0) (h : w (i + p) = 35) : ∀ n, (∀ m, p < m → m < p + 1 + n → dp w i m = 0 → w (i + m) ≠ 35) → lcq w i (p + 1 + n) = p + 1
  | 0, _ => by show (if dp w i p = 0 ∧ w (i + p) = 35 then p + 1 else lcq w i p) = p + 1; rw [if_pos ⟨hp, h⟩]
  | n + 1, hn => by
    show (if dp w i (p + 1 + n) = 0 ∧ w (i + (p + 1 + n)) = 35 then p + 1 + n + 1 else lcq w i (p + 1 + n)) = p + 1
    rw [if_neg (fun q => hn (p + 1 + n) (by omega) (by omega) q.1 q.2)]
    exact lcq_at hp h n (fun m a b => hn m a (by omega))
/-- the loosest, as a place within -/
def loq (w : Nat → Int) (i j : Nat) : Nat := (lo w i j).toNat
def lin (w : Nat → Int) (i j : Nat) : Prop := 0 ≤ lo w i j ∧ i ≤ loq w i j ∧ loq w i j < j
/-- a sign between two operands that answers a truth -/
def tru (x : Int) : Prop := (18 ≤ x ∧ x ≤ 23) ∨ x = 29 ∨ x = 30
end SE
/-- the kind: 1 a truth, 0 a number; c = 1: of a list (1 if one of them is a truth) -/
noncomputable def kdq (w E : Nat → Int) (c i j : Nat) : Int :=
  haveI := Classical.propDecidable (lin w i j)
  haveI := Classical.propDecidable (tru (w (loq w i j)))
  if hij : i < j then
    if hc : c = 1 then
      if hp : lcq w i (j - i) = 0 then kdq w E 0 i j
      else if kdq w E 1 i (i + lcq w i (j - i) - 1) = 1 ∨ kdq w E 0 (i + lcq w i (j - i)) j = 1 then 1 else 0
    else if hm : lin w i j then
      if w (loq w i j) = 32 then kdq w E 0 (clq w (loq w i j) j + 1) j
      else if tru (w (loq w i j)) then 1 else 0
    else if w i = 36 then kdq w E 0 (i + 1) (j - 1)
    else if w i = 31 ∨ w i = 12 ∨ w i = 13 then 1
    else if w i = 1 ∧ E i = 1 then 1 else 0
  else 0
termination_by 2 * (j - i) + c
decreasing_by
  all_goals simp_wf
  all_goals have a1 := lcq_le (w := w) (i := i) (j - i)
  all_goals have a2 := clq_b (w := w) (m := loq w i j) (j := j)
  all_goals first | omega | (have a3 := hm.2; omega)
/-- the first of two faults -/
def fst9 (a b : Int × Int) : Int × Int := if a.1 = 0 then b else a
/-- a fault of kinds, if they don't fit -/
noncomputable def kft (p : Prop) (x : Int) : Int × Int := haveI := Classical.propDecidable p; if p then (0, 0) else (3, x)
/-- which kinds fit a sign -/
def okq (x a b : Int) : Prop := if x = 29 ∨ x = 30 then a = 1 ∧ b = 1 else if x = 23 ∨ x = 18 then a = b else a = 0 ∧ b = 0
/-- the first fault of kinds and names, in the order of reading; (0, 0): none -/
noncomputable def fl (w E pl : Nat → Int) (c i j : Nat) : Int × Int :=
  haveI := Classical.propDecidable (lin w i j)
  if hij : i < j then
    if hc : c = 1 then
      if hp : lcq w i (j - i) = 0 then fl w E pl 0 i j
      else fst9 (fl w E pl 1 i (i + lcq w i (j - i) - 1)) (fl w E pl 0 (i + lcq w i (j - i)) j)
    else if hm : lin w i j then
      if w (loq w i j) = 32 then fst9 (fst9 (fst9 (fl w E pl 0 i (loq w i j)) (fl w E pl 0 (loq w i j + 1) (clq w (loq w i j) j))) (fl w E pl 0 (clq w (loq w i j) j + 1) j)) (kft (kdq w E 0 i (loq w i j) = 1 ∧ kdq w E 0 (loq w i j + 1) (clq w (loq w i j) j) = kdq w E 0 (clq w (loq w i j) j + 1) j) (pl (loq w i j)))
      else fst9 (fst9 (fl w E pl 0 i (loq w i j)) (fl w E pl 0 (loq w i j + 1) j)) (kft (okq (w (loq w i j)) (kdq w E 0 i (loq w i j)) (kdq w E 0 (loq w i j + 1) j)) (pl (loq w i j)))
    else if w i = 36 then fl w E pl 0 (i + 1) (j - 1)
    else if w i = 25 then fst9 (fl w E pl 0 (i + 1) j) (kft (kdq w E 0 (i + 1) j = 0) (pl i))
    else if w i = 31 then fst9 (fl w E pl 0 (i + 1) j) (kft (kdq w E 0 (i + 1) j = 1) (pl i))
    else if w i = 14 ∨ w i = 15 then fst9 (fl w E pl 1 (i + 2) (j - 1)) (kft (kdq w E 1 (i + 2) (j - 1) = 0) (pl i))
    else if w i = 1 ∧ E i = -1 then (2, pl i) else (0, 0)
  else (0, 0)
termination_by 2 * (j - i) + c
decreasing_by
  all_goals simp_wf
  all_goals have a1 := lcq_le (w := w) (i := i) (j - i)
  all_goals have a2 := clq_b (w := w) (m := loq w i j) (j := j)
  all_goals first | omega | (have a3 := hm.2; omega)
/-- the orders of a rule lie from s to e - 1; c: 0 a rule, 1 a list with the order x (place y) -/
def Cd (w : Nat → Int) (ec : Nat → Int × Int) (pl O P : Nat → Int) (c : Nat) (x y : Int) (i j s e : Nat) : Prop :=
  haveI := Classical.propDecidable (lin w i j)
  if hij : i < j then
    if hc : c = 1 then
      if hp : lcq w i (j - i) = 0 then Cd w ec pl O P 0 0 0 i j s e
      else ∃ a b, Cd w ec pl O P 1 x y i (i + lcq w i (j - i) - 1) s a ∧ Cd w ec pl O P 0 0 0 (i + lcq w i (j - i)) j a b ∧ e = b + 1 ∧ O b = x ∧ P b = y
    else if hm : lin w i j then
      if w (loq w i j) = 32 then ∃ a b : Nat, Cd w ec pl O P 0 0 0 i (loq w i j) s a ∧ O a = 33 ∧ P a = (b : Int) + 1 ∧ Cd w ec pl O P 0 0 0 (loq w i j + 1) (clq w (loq w i j) j) (a + 1) b ∧ O b = 42 ∧ P b = e ∧ Cd w ec pl O P 0 0 0 (clq w (loq w i j) j + 1) j (b + 1) e
      else if w (loq w i j) = 29 ∨ w (loq w i j) = 30 then ∃ a, Cd w ec pl O P 0 0 0 i (loq w i j) s a ∧ O a = w (loq w i j) + 1 ∧ P a = e ∧ Cd w ec pl O P 0 0 0 (loq w i j + 1) j (a + 1) e
      else ∃ a b, Cd w ec pl O P 0 0 0 i (loq w i j) s a ∧ Cd w ec pl O P 0 0 0 (loq w i j + 1) j a b ∧ e = b + 1 ∧ O b = w (loq w i j) + 1 ∧ P b = pl (loq w i j)
    else if w i = 36 then Cd w ec pl O P 0 0 0 (i + 1) (j - 1) s e
    else if w i = 25 ∨ w i = 31 then ∃ b, Cd w ec pl O P 0 0 0 (i + 1) j s b ∧ e = b + 1 ∧ O b = (if w i = 25 then 40 else 41) ∧ P b = pl i
    else if w i = 14 ∨ w i = 15 then Cd w ec pl O P 1 (w i + 1) (pl i) (i + 2) (j - 1) s e
    else e = s + 1 ∧ O s = (ec i).1 ∧ P s = (ec i).2
  else False
termination_by 2 * (j - i) + c
decreasing_by
  all_goals simp_wf
  all_goals have a1 := lcq_le (w := w) (i := i) (j - i)
  all_goals have a2 := clq_b (w := w) (m := loq w i j) (j := j)
  all_goals first | omega | (have a3 := hm.2; omega)
section SF
variable {w E pl O P : Nat → Int} {ec : Nat → Int × Int} {i j m s e : Nat} {x y : Int}
theorem lin_of (h : lo w i j = (m : Int)) (h1 : i ≤ m) (h2 : m < j) : lin w i j ∧ loq w i j = m := by
  have : loq w i j = m := by unfold loq; rw [h]; rfl
  exact ⟨⟨by rw [h]; omega, by rw [this]; exact h1, by rw [this]; exact h2⟩, this⟩
theorem lin_no (h : lo w i j = -1) : ¬ lin w i j := fun q => by have := q.1; omega
/-! kinds -/
theorem kd_bin (h : lo w i j = (m : Int)) (h1 : i ≤ m) (h2 : m < j) (h3 : w m ≠ 32) : kdq w E 0 i j = haveI := Classical.propDecidable (tru (w m)); if tru (w m) then 1 else 0 := by
  obtain ⟨a, b⟩ := lin_of h h1 h2
  rw [kdq, dif_pos (by omega), dif_neg (by decide), dif_pos a, b, if_neg h3]
theorem kd_ask {q : Nat} (h : lo w i j = (m : Int)) (h1 : i ≤ m) (h2 : m < j) (h3 : w m = 32) (hq : clq w m j = q) : kdq w E 0 i j = kdq w E 0 (q + 1) j := by
  obtain ⟨a, b⟩ := lin_of h h1 h2
  rw [kdq, dif_pos (by omega), dif_neg (by decide), dif_pos a, b, if_pos h3, hq]
theorem kd_par (h : lo w i j = -1) (hij : i < j) (h3 : w i = 36) : kdq w E 0 i j = kdq w E 0 (i + 1) (j - 1) := by
  rw [kdq, dif_pos hij, dif_neg (by decide), dif_neg (lin_no h), if_pos h3]
theorem kd_tru (h : lo w i j = -1) (hij : i < j) (h3 : w i = 31 ∨ w i = 12 ∨ w i = 13) : kdq w E 0 i j = 1 := by
  rw [kdq, dif_pos hij, dif_neg (by decide), dif_neg (lin_no h), if_neg (by omega), if_pos h3]
theorem kd_num (h : lo w i j = -1) (hij : i < j) (h3 : w i = 25 ∨ w i = 2 ∨ w i = 14 ∨ w i = 15) : kdq w E 0 i j = 0 := by
  rw [kdq, dif_pos hij, dif_neg (by decide), dif_neg (lin_no h), if_neg (by omega), if_neg (by omega), if_neg (by omega)]
theorem kd_nam (h : lo w i j = -1) (hij : i < j) (h3 : w i = 1) : kdq w E 0 i j = if E i = 1 then 1 else 0 := by
  rw [kdq, dif_pos hij, dif_neg (by decide), dif_neg (lin_no h), if_neg (by omega), if_neg (by omega)]
  by_cases c : E i = 1
  · rw [if_pos ⟨h3, c⟩, if_pos c]
  · rw [if_neg (fun q => c q.2), if_neg c]
theorem kd_l1 (hij : i < j) (h : lcq w i (j - i) = 0) : kdq w E 1 i j = kdq w E 0 i j := by
  rw [kdq, dif_pos hij, dif_pos rfl, dif_pos h]
theorem kd_ln (hij : i < j) (h : lcq w i (j - i) = m - i + 1) (hm : i ≤ m) : kdq w E 1 i j = if kdq w E 1 i m = 1 ∨ kdq w E 0 (m + 1) j = 1 then 1 else 0 := by
  rw [kdq, dif_pos hij, dif_pos rfl, dif_neg (by omega), h, show i + (m - i + 1) - 1 = m by first | rfl | omega, show i + (m - i + 1) = m + 1 by first | rfl | omega]
/-! faults -/
theorem fl_bin (h : lo w i j = (m : Int)) (h1 : i ≤ m) (h2 : m < j) (h3 : w m ≠ 32) : fl w E pl 0 i j = fst9 (fst9 (fl w E pl 0 i m) (fl w E pl 0 (m + 1) j)) (kft (okq (w m) (kdq w E 0 i m) (kdq w E 0 (m + 1) j)) (pl m)) := by
  obtain ⟨a, b⟩ := lin_of h h1 h2
  rw [fl, dif_pos (by omega), dif_neg (by decide), dif_pos a, b, if_neg h3]
theorem fl_ask {q : Nat} (h : lo w i j = (m : Int)) (h1 : i ≤ m) (h2 : m < j) (h3 : w m = 32) (hq : clq w m j = q) : fl w E pl 0 i j = fst9 (fst9 (fst9 (fl w E pl 0 i m) (fl w E pl 0 (m + 1) q)) (fl w E pl 0 (q + 1) j)) (kft (kdq w E 0 i m = 1 ∧ kdq w E 0 (m + 1) q = kdq w E 0 (q + 1) j) (pl m)) := by
  obtain ⟨a, b⟩ := lin_of h h1 h2
  rw [fl, dif_pos (by omega), dif_neg (by decide), dif_pos a, b, if_pos h3, hq]
theorem fl_par (h : lo w i j = -1) (hij : i < j) (h3 : w i = 36) : fl w E pl 0 i j = fl w E pl 0 (i + 1) (j - 1) := by
  rw [fl, dif_pos hij, dif_neg (by decide), dif_neg (lin_no h), if_pos h3]
theorem fl_neg (h : lo w i j = -1) (hij : i < j) (h3 : w i = 25) : fl w E pl 0 i j = fst9 (fl w E pl 0 (i + 1) j) (kft (kdq w E 0 (i + 1) j = 0) (pl i)) := by
  rw [fl, dif_pos hij, dif_neg (by decide), dif_neg (lin_no h), if_neg (by omega), if_pos h3]
theorem fl_not (h : lo w i j = -1) (hij : i < j) (h3 : w i = 31) : fl w E pl 0 i j = fst9 (fl w E pl 0 (i + 1) j) (kft (kdq w E 0 (i + 1) j = 1) (pl i)) := by
  rw [fl, dif_pos hij, dif_neg (by decide), dif_neg (lin_no h), if_neg (by omega), if_neg (by omega), if_pos h3]
theorem fl_lst (h : lo w i j = -1) (hij : i < j) (h3 : w i = 14 ∨ w i = 15) : fl w E pl 0 i j = fst9 (fl w E pl 1 (i + 2) (j - 1)) (kft (kdq w E 1 (i + 2) (j - 1) = 0) (pl i)) := by
  rw [fl, dif_pos hij, dif_neg (by decide), dif_neg (lin_no h), if_neg (by omega), if_neg (by omega), if_neg (by omega), if_pos h3]
theorem fl_leaf (h : lo w i j = -1) (hij : i < j) (h3 : w i = 1 ∨ w i = 2 ∨ w i = 12 ∨ w i = 13) : fl w E pl 0 i j = if w i = 1 ∧ E i = -1 then (2, pl i) else (0, 0) := by
  rw [fl, dif_pos hij, dif_neg (by decide), dif_neg (lin_no h), if_neg (by omega), if_neg (by omega), if_neg (by omega), if_neg (by omega)]
theorem fl_l1 (hij : i < j) (h : lcq w i (j - i) = 0) : fl w E pl 1 i j = fl w E pl 0 i j := by
  rw [fl, dif_pos hij, dif_pos rfl, dif_pos h]
theorem fl_ln (hij : i < j) (h : lcq w i (j - i) = m - i + 1) (hm : i ≤ m) : fl w E pl 1 i j = fst9 (fl w E pl 1 i m) (fl w E pl 0 (m + 1) j) := by
  rw [fl, dif_pos hij, dif_pos rfl, dif_neg (by omega), h, show i + (m - i + 1) - 1 = m by first | rfl | omega, show i + (m - i + 1) = m + 1 by first | rfl | omega]
/-! orders -/
theorem Cd_bin (h : lo w i j = (m : Int)) (h1 : i ≤ m) (h2 : m < j) (h3 : w m ≠ 32) (h4 : w m ≠ 29) (h5 : w m ≠ 30) : Cd w ec pl O P 0 x y i j s e ↔ ∃ a b, Cd w ec pl O P 0 0 0 i m s a ∧ Cd w ec pl O P 0 0 0 (m + 1) j a b ∧ e = b + 1 ∧ O b = w m + 1 ∧ P b = pl m := by
  obtain ⟨a, b⟩ := lin_of h h1 h2
  rw [Cd, dif_pos (by omega), dif_neg (by decide), dif_pos a, b, if_neg h3, if_neg (by omega)]
theorem Cd_jmp (h : lo w i j = (m : Int)) (h1 : i ≤ m) (h2 : m < j) (h3 : w m = 29 ∨ w m = 30) : Cd w ec pl O P 0 x y i j s e ↔ ∃ a, Cd w ec pl O P 0 0 0 i m s a ∧ O a = w m + 1 ∧ P a = e ∧ Cd w ec pl O P 0 0 0 (m + 1) j (a + 1) e := by
  obtain ⟨a, b⟩ := lin_of h h1 h2
  rw [Cd, dif_pos (by omega), dif_neg (by decide), dif_pos a, b, if_neg (by omega), if_pos h3]
theorem Cd_ask {q : Nat} (h : lo w i j = (m : Int)) (h1 : i ≤ m) (h2 : m < j) (h3 : w m = 32) (hq : clq w m j = q) : Cd w ec pl O P 0 x y i j s e ↔ ∃ a b : Nat, Cd w ec pl O P 0 0 0 i m s a ∧ O a = 33 ∧ P a = (b : Int) + 1 ∧ Cd w ec pl O P 0 0 0 (m + 1) q (a + 1) b ∧ O b = 42 ∧ P b = e ∧ Cd w ec pl O P 0 0 0 (q + 1) j (b + 1) e := by
  obtain ⟨a, b⟩ := lin_of h h1 h2
  rw [Cd, dif_pos (by omega), dif_neg (by decide), dif_pos a, b, if_pos h3, hq]
theorem Cd_par (h : lo w i j = -1) (hij : i < j) (h3 : w i = 36) : Cd w ec pl O P 0 x y i j s e ↔ Cd w ec pl O P 0 0 0 (i + 1) (j - 1) s e := by
  rw [Cd, dif_pos hij, dif_neg (by decide), dif_neg (lin_no h), if_pos h3]
theorem Cd_pre (h : lo w i j = -1) (hij : i < j) (h3 : w i = 25 ∨ w i = 31) : Cd w ec pl O P 0 x y i j s e ↔ ∃ b, Cd w ec pl O P 0 0 0 (i + 1) j s b ∧ e = b + 1 ∧ O b = (if w i = 25 then 40 else 41) ∧ P b = pl i := by
  rw [Cd, dif_pos hij, dif_neg (by decide), dif_neg (lin_no h), if_neg (by omega), if_pos h3]
theorem Cd_lst (h : lo w i j = -1) (hij : i < j) (h3 : w i = 14 ∨ w i = 15) : Cd w ec pl O P 0 x y i j s e ↔ Cd w ec pl O P 1 (w i + 1) (pl i) (i + 2) (j - 1) s e := by
  rw [Cd, dif_pos hij, dif_neg (by decide), dif_neg (lin_no h), if_neg (by omega), if_neg (by omega), if_pos h3]
theorem Cd_leaf (h : lo w i j = -1) (hij : i < j) (h3 : w i = 1 ∨ w i = 2 ∨ w i = 12 ∨ w i = 13) : Cd w ec pl O P 0 x y i j s e ↔ e = s + 1 ∧ O s = (ec i).1 ∧ P s = (ec i).2 := by
  rw [Cd, dif_pos hij, dif_neg (by decide), dif_neg (lin_no h), if_neg (by omega), if_neg (by omega), if_neg (by omega)]
theorem Cd_l1 (hij : i < j) (h : lcq w i (j - i) = 0) : Cd w ec pl O P 1 x y i j s e ↔ Cd w ec pl O P 0 0 0 i j s e := by
  rw [Cd, dif_pos hij, dif_pos rfl, dif_pos h]
theorem Cd_ln (hij : i < j) (h : lcq w i (j - i) = m - i + 1) (hm : i ≤ m) : Cd w ec pl O P 1 x y i j s e ↔ ∃ a b, Cd w ec pl O P 1 x y i m s a ∧ Cd w ec pl O P 0 0 0 (m + 1) j a b ∧ e = b + 1 ∧ O b = x ∧ P b = y := by
  rw [Cd, dif_pos hij, dif_pos rfl, dif_neg (by omega), h, show i + (m - i + 1) - 1 = m by first | rfl | omega, show i + (m - i + 1) = m + 1 by first | rfl | omega]
end SF
end
section
/-! The class's reader: what its open operations and its operands stand for. -/
theorem fst9_a (a b c : Int × Int) : fst9 (fst9 a b) c = fst9 a (fst9 b c) := by
  unfold fst9
  by_cases h : a.1 = 0
  · rw [if_pos h, if_pos h]
  · rw [if_neg h, if_neg h, if_neg h]
theorem fst9_0 (b : Int × Int) : fst9 (0, 0) b = b := if_pos rfl
section OQ
variable {w E pl O P O' P' : Nat → Int} {ec : Nat → Int × Int} {i j m s e : Nat} {x y : Int}
theorem Eo.le {c c' : Nat} (h : Eo w c i j) (hc : c ≤ c') (h6 : c' ≤ 6) : Eo w c' i j := by
  have : ∀ n c, c + n ≤ 6 → Eo w c i j → Eo w (c + n) i j := by
    intro n
    induction n with
    | zero => intro c _ q; exact q
    | succ n ih => intro c q1 q2; exact Eo.one (c := c + n) (by omega) (ih c (by omega) q2)
  have r := this (c' - c) c (by omega) h
  rw [show c + (c' - c) = c' by first | rfl | omega] at r
  exact r
theorem lo_ask (p5 : Pr w 5 i m) (h1 : w m = 32) (hj : m < j) : lo w i j = (m : Int) := by
  have em : i + (m - i) = m := by have := p5.1; omega
  have hb : bh w i (j - i) = ((m : Int), 6) := by
    have hm1 := p5.1
    rw [show j - i = (m - i) + 1 + (j - (m + 1)) by first | rfl | omega]
    have hm0 : ll w i (m - i) = 6 := by
      unfold ll
      rw [if_pos p5.2.2.2.2.1.1, em, lz_32 h1]
    have k := bh_max (w := w) (i := i) (a := m - i) (c := 6) (by omega) (fun k hk => by have := lb_ll p5.2.2.2.2.2.2 hk; omega) hm0 (j - (m + 1)) (fun k k1 k2 => ⟨by unfold ll; have := lz_le (w := w) (i := i) (k := i + k); split <;> omega, fun z => by omega⟩) (fun z k hk => by have := lb_ll p5.2.2.2.2.2.2 hk; omega)
    rw [em] at k
    exact k
  unfold lo
  rw [hb, if_neg]
  show ¬ (w i = 31 ∧ 6 < 4)
  omega
/-- how strong an operand may stand before an operation -/
def lsq (o : Int) : Nat := if 27 ≤ o ∧ o ≤ 29 then 1 else if 19 ≤ o ∧ o ≤ 26 then 2 else if o = 30 then 4 else 5
/-- two operands joined -/
theorem lo_bin {o : Int} {b a : Nat} (h1 : Eo w (lsq o) b m) (h2 : Eo w (rsq o) (m + 1) a) (hw : w m = o - 1) (ho : 19 ≤ o ∧ o ≤ 31) : lo w b a = (m : Int) ∧ Eo w (cst o) b a := by
  have p1 := h1.pr
  have p2 := h2.pr
  by_cases c1 : 27 ≤ o ∧ o ≤ 29
  · have e1 : lsq o = 1 := if_pos c1
    have e2 : rsq o = 0 := if_pos (Or.inr c1)
    have e3 : cst o = 1 := if_pos c1
    rw [e1] at h1 p1
    rw [e2] at h2 p2
    rw [e3]
    exact ⟨lo_op (c := 1) p1 p2 (by omega) (by omega) (by omega) (fun _ => by omega) (fun _ => by omega) (by omega) (lz_26 (by omega)) (fun q => absurd q (p1.2.2.1 (by omega))), eo1 (by omega) h1 h2⟩
  · by_cases c2 : o = 25 ∨ o = 26
    · have e1 : lsq o = 2 := by unfold lsq; rw [if_neg c1, if_pos (by omega)]
      have e2 : rsq o = 1 := by unfold rsq; rw [if_neg (by omega), if_pos c2]
      have e3 : cst o = 2 := by unfold cst; rw [if_neg c1, if_pos c2]
      rw [e1] at h1 p1
      rw [e2] at h2 p2
      rw [e3]
      exact ⟨lo_op (c := 2) p1 p2 (by omega) (by omega) (by omega) (fun _ => by omega) (fun _ => by omega) (by omega) (lz_24 (by omega) p1.1 p1.2.2.2.1) (fun q => absurd q (p1.2.2.1 (by omega))), eo2 (by omega) h1 h2⟩
    · by_cases c3 : 19 ≤ o ∧ o ≤ 24
      · have e1 : lsq o = 2 := by unfold lsq; rw [if_neg c1, if_pos (by omega)]
        have e2 : rsq o = 2 := by unfold rsq; rw [if_neg (by omega), if_neg c2, if_pos c3]
        have e3 : cst o = 3 := by unfold cst; rw [if_neg c1, if_neg c2, if_pos (Or.inl c3)]
        rw [e1] at h1 p1
        rw [e2] at h2 p2
        rw [e3]
        exact ⟨lo_op (c := 3) p1 p2 (by omega) (by omega) (by omega) (fun _ => by omega) (fun _ => by omega) (by omega) (lz_18 (by omega)) (fun q => absurd q (p1.2.2.1 (by omega))), eo3 (by omega) h1 h2⟩
      · by_cases c4 : o = 30
        · subst c4
          exact ⟨lo_op (c := 4) (c1 := 4) (c2 := 3) p1 p2 (by omega) (by omega) (by omega) (fun _ => by omega) (fun _ => by omega) (by omega) (lz_29 (by omega)) (fun _ => by omega), eo4 (by omega) h1 h2⟩
        · have c5 : o = 31 := by omega
          subst c5
          exact ⟨lo_op (c := 5) (c1 := 5) (c2 := 4) p1 p2 (by omega) (by omega) (by omega) (fun _ => by omega) (fun _ => by omega) (by omega) (lz_30 (by omega)) (fun _ => by omega), eo5 (by omega) h1 h2⟩
theorem clq_eo {q : Nat} (h2 : Eo w 6 (m + 1) q) (hq : w q = 33) (hj : q < j) : clq w m j = q := clq_at (Nat.le_of_lt h2.pr.1) hj h2.pr.2.2.2.2.1 hq
theorem lcq_eo {c : Nat} (h : Eo w c i j) (hc : c ≤ 6) : lcq w i (j - i) = 0 := by
  obtain ⟨n, h⟩ := h
  exact lcq_0 _ (ex_nc hc h)
theorem lcq_7 (h1 : Eo w 7 i m) (hw : w m = 35) (h2 : Eo w 6 (m + 1) j) : lcq w i (j - i) = m - i + 1 := by
  have p1 := h1.pr
  have p2 := h2.pr
  have hi := p1.1
  have hj := p2.1
  obtain ⟨n, h2⟩ := h2
  have nx := ex_nc (by omega) h2
  have d1 : dp w i (m - i) = 0 := p1.2.2.2.2.1.1
  have em : i + (m - i) = m := by omega
  have d2 : dp w i (m - i + 1) = 0 := by rw [dp_s, em, if_neg (by omega), if_neg (by omega), d1]; omega
  rw [show j - i = (m - i) + 1 + (j - (m + 1)) by first | rfl | omega]
  refine lcq_at d1 (by rw [em]; exact hw) _ (fun t t1 t2 t3 => ?_)
  have e : t = (m - i + 1) + (t - (m - i + 1)) := by omega
  rw [e, dp_app, d2, show i + (m - i + 1) = m + 1 by first | rfl | omega] at t3
  have := nx (t - (m - i + 1)) (by omega) (by omega)
  rw [show m + 1 + (t - (m - i + 1)) = i + t by first | rfl | omega] at this
  exact this
/-! orders: they take room, and ask nothing of what lies elsewhere -/
theorem Cd_lt : ∀ (n c i j : Nat), 2 * (j - i) + c ≤ n → ∀ {x y : Int} {s e : Nat}, Cd w ec pl O P c x y i j s e → s < e := by
  intro n
  induction n with
  | zero =>
    intro c i j hn x y s e h
    rw [Cd] at h
    rw [dif_neg (by omega)] at h
    exact h.elim
  | succ n ih =>
    intro c i j hn x y s e h
    have a1 := lcq_le (w := w) (i := i) (j - i)
    have a2 := clq_b (w := w) (m := loq w i j) (j := j)
    rw [Cd] at h
    by_cases hij : i < j
    · rw [dif_pos hij] at h
      by_cases hc : c = 1
      · rw [dif_pos hc] at h
        by_cases hp : lcq w i (j - i) = 0
        · rw [dif_pos hp] at h
          exact ih _ _ _ (by omega) h
        · rw [dif_neg hp] at h
          obtain ⟨a, b, h1, h2, h3, -⟩ := h
          have := ih _ _ _ (by omega) h1
          have := ih _ _ _ (by omega) h2
          omega
      · rw [dif_neg hc] at h
        by_cases hm : lin w i j
        · rw [dif_pos hm] at h
          have a3 := hm.2
          split at h
          · obtain ⟨a, b, h1, -, -, h2, -, -, h3⟩ := h
            have := ih _ _ _ (by omega) h1
            have := ih _ _ _ (by omega) h2
            have := ih _ _ _ (by omega) h3
            omega
          · split at h
            · obtain ⟨a, h1, -, -, h2⟩ := h
              have := ih _ _ _ (by omega) h1
              have := ih _ _ _ (by omega) h2
              omega
            · obtain ⟨a, b, h1, h2, h3, -⟩ := h
              have := ih _ _ _ (by omega) h1
              have := ih _ _ _ (by omega) h2
              omega
        · rw [dif_neg hm] at h
          split at h
          · exact ih _ _ _ (by omega) h
          · split at h
            · obtain ⟨b, h1, h2, -⟩ := h
              have := ih _ _ _ (by omega) h1
              omega
            · split at h
              · exact ih _ _ _ (by omega) h
              · omega
    · rw [dif_neg hij] at h
      exact h.elim
theorem Cd.lt {c i j : Nat} (h : Cd w ec pl O P c x y i j s e) : s < e := Cd_lt _ c i j (Nat.le_refl _) h
theorem Cd_cg : ∀ (n c i j : Nat), 2 * (j - i) + c ≤ n → ∀ {x y : Int} {s e : Nat}, Cd w ec pl O P c x y i j s e → (∀ t, s ≤ t → t < e → O' t = O t ∧ P' t = P t) → Cd w ec pl O' P' c x y i j s e := by
  intro n
  induction n with
  | zero =>
    intro c i j hn x y s e h _
    rw [Cd] at h
    rw [dif_neg (by omega)] at h
    exact h.elim
  | succ n ih =>
    intro c i j hn x y s e h hO
    have a1 := lcq_le (w := w) (i := i) (j - i)
    have a2 := clq_b (w := w) (m := loq w i j) (j := j)
    rw [Cd] at h ⊢
    by_cases hij : i < j
    · rw [dif_pos hij] at h ⊢
      by_cases hc : c = 1
      · rw [dif_pos hc] at h ⊢
        by_cases hp : lcq w i (j - i) = 0
        · rw [dif_pos hp] at h ⊢
          exact ih _ _ _ (by omega) h hO
        · rw [dif_neg hp] at h ⊢
          obtain ⟨a, b, h1, h2, h3, h4, h5⟩ := h
          have l1 := h1.lt
          have l2 := h2.lt
          have k := hO b (by omega) (by omega)
          exact ⟨a, b, ih _ _ _ (by omega) h1 (fun t u v => hO t u (by omega)), ih _ _ _ (by omega) h2 (fun t u v => hO t (by omega) (by omega)), h3, by rw [k.1]; exact h4, by rw [k.2]; exact h5⟩
      · rw [dif_neg hc] at h ⊢
        by_cases hm : lin w i j
        · rw [dif_pos hm] at h ⊢
          have a3 := hm.2
          by_cases c1 : w (loq w i j) = 32
          · rw [if_pos c1] at h ⊢
            obtain ⟨a, b, h1, h4, h5, h2, h6, h7, h3⟩ := h
            have l1 := h1.lt
            have l2 := h2.lt
            have l3 := h3.lt
            have k1 := hO a (by omega) (by omega)
            have k2 := hO b (by omega) (by omega)
            exact ⟨a, b, ih _ _ _ (by omega) h1 (fun t u v => hO t u (by omega)), by rw [k1.1]; exact h4, by rw [k1.2]; exact h5, ih _ _ _ (by omega) h2 (fun t u v => hO t (by omega) (by omega)), by rw [k2.1]; exact h6, by rw [k2.2]; exact h7, ih _ _ _ (by omega) h3 (fun t u v => hO t (by omega) v)⟩
          · rw [if_neg c1] at h ⊢
            by_cases c2 : w (loq w i j) = 29 ∨ w (loq w i j) = 30
            · rw [if_pos c2] at h ⊢
              obtain ⟨a, h1, h4, h5, h2⟩ := h
              have l1 := h1.lt
              have l2 := h2.lt
              have k1 := hO a (by omega) (by omega)
              exact ⟨a, ih _ _ _ (by omega) h1 (fun t u v => hO t u (by omega)), by rw [k1.1]; exact h4, by rw [k1.2]; exact h5, ih _ _ _ (by omega) h2 (fun t u v => hO t (by omega) v)⟩
            · rw [if_neg c2] at h ⊢
              obtain ⟨a, b, h1, h2, h3, h4, h5⟩ := h
              have l1 := h1.lt
              have l2 := h2.lt
              have k := hO b (by omega) (by omega)
              exact ⟨a, b, ih _ _ _ (by omega) h1 (fun t u v => hO t u (by omega)), ih _ _ _ (by omega) h2 (fun t u v => hO t (by omega) (by omega)), h3, by rw [k.1]; exact h4, by rw [k.2]; exact h5⟩
        · rw [dif_neg hm] at h ⊢
          by_cases c1 : w i = 36
          · rw [if_pos c1] at h ⊢
            exact ih _ _ _ (by omega) h hO
          · rw [if_neg c1] at h ⊢
            by_cases c2 : w i = 25 ∨ w i = 31
            · rw [if_pos c2] at h ⊢
              obtain ⟨b, h1, h2, h3, h4⟩ := h
              have l1 := h1.lt
              have k := hO b (by omega) (by omega)
              exact ⟨b, ih _ _ _ (by omega) h1 (fun t u v => hO t u (by omega)), h2, by rw [k.1]; exact h3, by rw [k.2]; exact h4⟩
            · rw [if_neg c2] at h ⊢
              by_cases c3 : w i = 14 ∨ w i = 15
              · rw [if_pos c3] at h ⊢
                exact ih _ _ _ (by omega) h hO
              · rw [if_neg c3] at h ⊢
                have k := hO s (by omega) (by omega)
                exact ⟨h.1, by rw [k.1]; exact h.2.1, by rw [k.2]; exact h.2.2⟩
    · rw [dif_neg hij] at h
      exact h.elim
theorem Cd.cg {c i j : Nat} (h : Cd w ec pl O P c x y i j s e) (hO : ∀ t, s ≤ t → t < e → O' t = O t ∧ P' t = P t) : Cd w ec pl O' P' c x y i j s e := Cd_cg _ c i j (Nat.le_refl _) h hO
end OQ
end
end
section
section
/-! The class's reader: its piles, and what each step makes of them. -/
/-- an open operation: its number, its word, where the operand behind it begins -/
abbrev gqq : Type := Int × Nat × Nat
def xs9 (i0 : Nat) : List gqq → Nat
  | [] => i0
  | g :: _ => g.2.2
def Gop (w E pl O P : Nat → Int) (ec : Nat → Int × Int) (o : Int) (m x b : Nat) (d k : Int) (kn' kn : List Int) (ft' ft : Int × Int) (e' e : Nat) : Prop :=
  (((o = 37 ∧ w m = 36) ∨ (o = 40 ∧ w m = 25) ∨ (o = 41 ∧ w m = 31)) ∧ m = b ∧ x = b + 1 ∧ d = -1 ∧ k = 0 ∧ kn = kn' ∧ ft = ft' ∧ e = e')
  ∨ ((19 ≤ o ∧ o ≤ 29) ∧ w m = o - 1 ∧ x = m + 1 ∧ Eo w (lsq o) b m ∧ d = -1 ∧ k = 0 ∧ kn = kdq w E 0 b m :: kn' ∧ ft = fst9 ft' (fl w E pl 0 b m) ∧ Cd w ec pl O P 0 0 0 b m e' e)
  ∨ ((o = 30 ∨ o = 31) ∧ w m = o - 1 ∧ x = m + 1 ∧ Eo w (lsq o) b m ∧ k = 0 ∧ kn = kdq w E 0 b m :: kn' ∧ ft = fst9 ft' (fl w E pl 0 b m) ∧ ∃ a : Nat, d = a ∧ e = a + 1 ∧ O a = o ∧ Cd w ec pl O P 0 0 0 b m e' a)
  ∨ (o = 33 ∧ w m = 32 ∧ x = m + 1 ∧ Eo w 5 b m ∧ k = (if kdq w E 0 b m = 1 then 0 else 1) ∧ kn = kn' ∧ ft = fst9 ft' (fl w E pl 0 b m) ∧ ∃ a : Nat, d = a ∧ e = a + 1 ∧ O a = 33 ∧ Cd w ec pl O P 0 0 0 b m e' a)
  ∨ (o = 42 ∧ w m = 32 ∧ Eo w 5 b m ∧ m + 1 < x ∧ Eo w 6 (m + 1) (x - 1) ∧ w (x - 1) = 33 ∧ k = (if kdq w E 0 b m = 1 then 0 else 1) + (if kdq w E 0 (m + 1) (x - 1) = 1 then 4 else 0) ∧ kn = kn' ∧ ft = fst9 (fst9 ft' (fl w E pl 0 b m)) (fl w E pl 0 (m + 1) (x - 1)) ∧ ∃ a c : Nat, d = c ∧ e = c + 1 ∧ O a = 33 ∧ P a = (c : Int) + 1 ∧ O c = 42 ∧ Cd w ec pl O P 0 0 0 b m e' a ∧ Cd w ec pl O P 0 0 0 (m + 1) (x - 1) (a + 1) c)
  ∨ ((o = 15 ∨ o = 16) ∧ w m = o - 1 ∧ w (m + 1) = 36 ∧ m = b ∧ d = -1 ∧ kn = kn' ∧ ((x = m + 2 ∧ k = 0 ∧ ft = ft' ∧ e = e') ∨ (m + 2 < x ∧ Eo w 7 (m + 2) (x - 1) ∧ w (x - 1) = 35 ∧ k = 2 + kdq w E 1 (m + 2) (x - 1) ∧ ft = fst9 ft' (fl w E pl 1 (m + 2) (x - 1)) ∧ Cd w ec pl O P 1 o (pl m) (m + 2) (x - 1) e' e)))
def GSq (w E pl O P : Nat → Int) (ec : Nat → Int × Int) (i0 s : Nat) (f0 : Int × Int) : List gqq → List Int → List Int → List Int → Int × Int → Nat → Prop
  | [], od, mq, kn, ft, e => od = [] ∧ mq = [] ∧ kn = [] ∧ ft = f0 ∧ e = s
  | g :: t, od, mq, kn, ft, e => ∃ d od' k mq' kn' ft' e', od = d :: od' ∧ mq = k :: mq' ∧ e' ≤ e ∧ Gop w E pl O P ec g.1 g.2.1 g.2.2 (xs9 i0 t) d k kn' kn ft' ft e' e ∧ GSq w E pl O P ec i0 s f0 t od' mq' kn' ft' e'
/-- an operand of strength c has been read, up to word a -/
def OPq (w E pl O P : Nat → Int) (ec : Nat → Int × Int) (i0 s : Nat) (f0 : Int × Int) (c : Nat) (gs : List gqq) (od mq kn : List Int) (ft : Int × Int) (e a : Nat) : Prop :=
  ∃ kn' ft' e', GSq w E pl O P ec i0 s f0 gs od mq kn' ft' e' ∧ Eo w c (xs9 i0 gs) a ∧ kn = kdq w E 0 (xs9 i0 gs) a :: kn' ∧ ft = fst9 ft' (fl w E pl 0 (xs9 i0 gs) a) ∧ Cd w ec pl O P 0 0 0 (xs9 i0 gs) a e' e
section OR9
variable {w E pl O P O' P' : Nat → Int} {ec : Nat → Int × Int} {i0 s : Nat} {f0 : Int × Int} {gs t : List gqq} {od mq kn : List Int} {ft : Int × Int} {L a m x c : Nat} {o : Int}
theorem kd01 : ∀ (n c i j : Nat), 2 * (j - i) + c ≤ n → (kdq w E c i j = 0 ∨ kdq w E c i j = 1) := by
  intro n
  induction n with
  | zero =>
    intro c i j hn
    rw [kdq, dif_neg (by omega)]
    exact Or.inl rfl
  | succ n ih =>
    intro c i j hn
    have a1 := lcq_le (w := w) (i := i) (j - i)
    have a2 := clq_b (w := w) (m := loq w i j) (j := j)
    rw [kdq]
    by_cases hij : i < j
    · rw [dif_pos hij]
      by_cases hc : c = 1
      · rw [dif_pos hc]
        by_cases hp : lcq w i (j - i) = 0
        · rw [dif_pos hp]
          exact ih _ _ _ (by omega)
        · rw [dif_neg hp]
          split
          · exact Or.inr rfl
          · exact Or.inl rfl
      · rw [dif_neg hc]
        by_cases hm : lin w i j
        · rw [dif_pos hm]
          have a3 := hm.2
          split
          · exact ih _ _ _ (by omega)
          · split
            · exact Or.inr rfl
            · exact Or.inl rfl
        · rw [dif_neg hm]
          split
          · exact ih _ _ _ (by omega)
          · split
            · exact Or.inr rfl
            · split
              · exact Or.inr rfl
              · exact Or.inl rfl
    · rw [dif_neg hij]
      exact Or.inl rfl
theorem kd_01 {c i j : Nat} : kdq w E c i j = 0 ∨ kdq w E c i j = 1 := kd01 _ c i j (Nat.le_refl _)
theorem Gop.cg {m x b : Nat} {d k : Int} {kn' : List Int} {ft' : Int × Int} {e' e : Nat} (h : Gop w E pl O P ec o m x b d k kn' kn ft' ft e' e) (hO : ∀ t, t < e → O' t = O t ∧ P' t = P t) : Gop w E pl O' P' ec o m x b d k kn' kn ft' ft e' e := by
  rcases h with h | ⟨h1, h2, h3, h4, h5, h6, h7, h8, h9⟩ | ⟨h1, h2, h3, h4, h5, h6, h7, a, h8, h9, h10, h11⟩ | ⟨h1, h2, h3, h4, h5, h6, h7, a, h8, h9, h10, h11⟩ | ⟨h1, h2, h3, h4, h5, h6, h7, h8, h9, a, c, k1, k2, k3, k4, k5, k6, k7⟩ | ⟨h1, h2, h3, h4, h5, h6, h7⟩
  · exact Or.inl h
  · exact Or.inr (Or.inl ⟨h1, h2, h3, h4, h5, h6, h7, h8, h9.cg (fun t _ q => hO t q)⟩)
  · exact Or.inr (Or.inr (Or.inl ⟨h1, h2, h3, h4, h5, h6, h7, a, h8, h9, by rw [(hO a (by omega)).1]; exact h10, h11.cg (fun t _ q => hO t (by omega))⟩))
  · exact Or.inr (Or.inr (Or.inr (Or.inl ⟨h1, h2, h3, h4, h5, h6, h7, a, h8, h9, by rw [(hO a (by omega)).1]; exact h10, h11.cg (fun t _ q => hO t (by omega))⟩)))
  · have l7 := k7.lt
    exact Or.inr (Or.inr (Or.inr (Or.inr (Or.inl ⟨h1, h2, h3, h4, h5, h6, h7, h8, h9, a, c, k1, k2, by rw [(hO a (by omega)).1]; exact k3, by rw [(hO a (by omega)).2]; exact k4, by rw [(hO c (by omega)).1]; exact k5, k6.cg (fun t _ q => hO t (by omega)), k7.cg (fun t _ q => hO t (by omega))⟩))))
  · refine Or.inr (Or.inr (Or.inr (Or.inr (Or.inr ⟨h1, h2, h3, h4, h5, h6, ?_⟩))))
    rcases h7 with h7 | ⟨a1, a2, a3, a4, a5, a6⟩
    · exact Or.inl h7
    · exact Or.inr ⟨a1, a2, a3, a4, a5, a6.cg (fun t _ q => hO t q)⟩
theorem GSq.cg : ∀ {gs : List gqq} {od mq kn : List Int} {ft : Int × Int} {e : Nat}, GSq w E pl O P ec i0 s f0 gs od mq kn ft e → (∀ t, t < e → O' t = O t ∧ P' t = P t) → GSq w E pl O' P' ec i0 s f0 gs od mq kn ft e
  | [], od, mq, kn, ft, e, h, _ => h
  | g :: t, od, mq, kn, ft, e, h, hO => by
    obtain ⟨d, od', k, mq', kn', ft', e', h1, h2, h3, h4, h5⟩ := h
    exact ⟨d, od', k, mq', kn', ft', e', h1, h2, h3, h4.cg hO, h5.cg (fun t q => hO t (by omega))⟩
theorem eo_leaf_lo (hw : w a = 1 ∨ w a = 2 ∨ w a = 12 ∨ w a = 13) : lo w a (a + 1) = -1 := lo_none (eo0_leaf hw).pr
/-- a value has been read -/
theorem OPq.val (h : GSq w E pl O P ec i0 s f0 gs od mq kn ft L) (ha : xs9 i0 gs = a) (hw : w a = 1 ∨ w a = 2 ∨ w a = 12 ∨ w a = 13) (hO : ∀ t, t < L → O' t = O t ∧ P' t = P t) (h1 : O' L = (ec a).1) (h2 : P' L = (ec a).2) : OPq w E pl O' P' ec i0 s f0 0 gs od mq (kdq w E 0 a (a + 1) :: kn) (fst9 ft (fl w E pl 0 a (a + 1))) (L + 1) (a + 1) :=
  ⟨kn, ft, L, h.cg hO, by rw [ha]; exact eo0_leaf hw, by rw [ha], by rw [ha], by rw [ha]; exact (Cd_leaf (eo_leaf_lo hw) (by omega) hw).mpr ⟨rfl, h1, h2⟩⟩
/-- a parenthesis, a sign before an operand -/
theorem GSq.pre (h : GSq w E pl O P ec i0 s f0 gs od mq kn ft L) (ha : xs9 i0 gs = a) (ho : (o = 37 ∧ w a = 36) ∨ (o = 40 ∧ w a = 25) ∨ (o = 41 ∧ w a = 31)) : GSq w E pl O P ec i0 s f0 ((o, a, a + 1) :: gs) (-1 :: od) (0 :: mq) kn ft L :=
  ⟨-1, od, 0, mq, kn, ft, L, rfl, rfl, Nat.le_refl _, Or.inl ⟨ho, ha.symm, by rw [ha], rfl, rfl, rfl, rfl, rfl⟩, h⟩
theorem GSq.lst (h : GSq w E pl O P ec i0 s f0 gs od mq kn ft L) (ha : xs9 i0 gs = a) (ho : o = 15 ∨ o = 16) (hw : w a = o - 1) (h1 : w (a + 1) = 36) : GSq w E pl O P ec i0 s f0 ((o, a, a + 2) :: gs) (-1 :: od) (0 :: mq) kn ft L :=
  ⟨-1, od, 0, mq, kn, ft, L, rfl, rfl, Nat.le_refl _, Or.inr (Or.inr (Or.inr (Or.inr (Or.inr ⟨ho, hw, h1, ha.symm, rfl, rfl, Or.inl ⟨rfl, rfl, rfl, rfl⟩⟩)))), h⟩
theorem kft_iff {p q : Prop} {x : Int} (h : p ↔ q) : kft p x = kft q x := by rw [propext h]
/-- a sign before an operand is grouped -/
theorem OPq.gpre (h : OPq w E pl O P ec i0 s f0 c ((o, m, x) :: t) od mq kn ft L a) (ho : o = 40 ∨ o = 41) (hc : c ≤ rsq o) : ∃ od' mq' last kn', od = -1 :: od' ∧ mq = 0 :: mq' ∧ kn = last :: kn' ∧ (last = 0 ∨ last = 1) ∧ ∀ O' P' : Nat → Int, (∀ t, t < L → O' t = O t ∧ P' t = P t) → O' L = o → P' L = pl m → OPq w E pl O' P' ec i0 s f0 (cst o) t od' mq' ((if o = 41 then 1 else 0) :: kn') (fst9 ft (kft (last = if o = 41 then 1 else 0) (pl m))) (L + 1) a := by
  obtain ⟨kn', ft', e', ⟨d, od', k, mq', kn1, ft1, e1, g1, g2, g3, g4, g5⟩, h2, h3, h4, h5⟩ := h
  have h2 : Eo w c x a := h2
  have h3 : kn = kdq w E 0 x a :: kn' := h3
  have h4 : ft = fst9 ft' (fl w E pl 0 x a) := h4
  have h5 : Cd w ec pl O P 0 0 0 x a e' L := h5
  have g4 : Gop w E pl O P ec o m x (xs9 i0 t) d k kn1 kn' ft1 ft' e1 e' := g4
  rcases g4 with ⟨q1, q2, q3, q4, q5, q6, q7, q8⟩ | ⟨q1, -⟩ | ⟨q1, -⟩ | ⟨q1, -⟩ | ⟨q1, -⟩ | ⟨q1, -⟩
  · subst q4 q5 q6 q7 q8
    refine ⟨od', mq', _, kn', g1, g2, h3, kd_01, fun O' P' hO hL hP => ?_⟩
    have hx : x = m + 1 := by omega
    subst hx
    have hb : xs9 i0 t = m := q2.symm
    have pr := h2.pr
    have hj := pr.1
    have l5 := h5.lt
    rcases ho with e | e
    · subst e
      have hw : w m = 25 := by omega
      have hc0 : c = 0 := by have : rsq 40 = 0 := by decide
                             omega
      subst hc0
      have eo := eo0_neg hw h2
      have hlo := lo_none eo.pr
      refine ⟨kn', ft', e', g5.cg (fun u v => hO u (by omega)), by rw [hb]; exact eo, by rw [hb, kd_num hlo (by omega) (Or.inl hw), if_neg (by decide)], ?_, ?_⟩
      · rw [hb, fl_neg hlo (by omega) hw, h4, fst9_a, if_neg (by decide)]; rfl
      · rw [hb]
        exact (Cd_pre hlo (by omega) (Or.inl hw)).mpr ⟨L, h5.cg (fun u _ v => hO u v), rfl, by rw [if_pos hw]; exact hL, hP⟩
    · subst e
      have hw : w m = 31 := by omega
      have h3' : Eo w 3 (m + 1) a := h2.le (by have : rsq 41 = 3 := by decide
                                               omega) (by omega)
      have eo := eo3n hw h3'
      have hlo := lo_not eo.pr hw
      refine ⟨kn', ft', e', g5.cg (fun u v => hO u (by omega)), by rw [hb]; exact eo, by rw [hb, kd_tru hlo (by omega) (Or.inl hw), if_pos rfl], ?_, ?_⟩
      · rw [hb, fl_not hlo (by omega) hw, h4, fst9_a, if_pos rfl]; rfl
      · rw [hb]
        exact (Cd_pre hlo (by omega) (Or.inr hw)).mpr ⟨L, h5.cg (fun u _ v => hO u v), rfl, by rw [if_neg (by omega)]; exact hL, hP⟩
  · omega
  · omega
  · omega
  · omega
  · omega
/-- a sign between two operands is grouped -/
theorem OPq.gbin (h : OPq w E pl O P ec i0 s f0 c ((o, m, x) :: t) od mq kn ft L a) (ho : 19 ≤ o ∧ o ≤ 29) (hc : c ≤ rsq o) : ∃ od' mq' last left kn', od = -1 :: od' ∧ mq = 0 :: mq' ∧ kn = last :: left :: kn' ∧ ((last = 0 ∨ last = 1) ∧ (left = 0 ∨ left = 1)) ∧ ∀ O' P' : Nat → Int, (∀ t, t < L → O' t = O t ∧ P' t = P t) → O' L = o → P' L = pl m → OPq w E pl O' P' ec i0 s f0 (cst o) t od' mq' ((if o ≤ 24 then 1 else 0) :: kn') (fst9 ft (kft (okq (o - 1) left last) (pl m))) (L + 1) a := by
  obtain ⟨kn', ft', e', ⟨d, od', k, mq', kn1, ft1, e1, g1, g2, g3, g4, g5⟩, h2, h3, h4, h5⟩ := h
  have h2 : Eo w c x a := h2
  have h3 : kn = kdq w E 0 x a :: kn' := h3
  have h4 : ft = fst9 ft' (fl w E pl 0 x a) := h4
  have h5 : Cd w ec pl O P 0 0 0 x a e' L := h5
  have g4 : Gop w E pl O P ec o m x (xs9 i0 t) d k kn1 kn' ft1 ft' e1 e' := g4
  rcases g4 with ⟨q1, -⟩ | ⟨q1, q2, q3, q4, q5, q6, q7, q8, q9⟩ | ⟨q1, -⟩ | ⟨q1, -⟩ | ⟨q1, -⟩ | ⟨q1, -⟩
  · omega
  · subst q5 q6 q3 q7 q8
    refine ⟨od', mq', _, _, kn1, g1, g2, h3, ⟨kd_01, kd_01⟩, fun O' P' hO hL hP => ?_⟩
    have p2 := h2.pr
    have hj := p2.1
    have l5 := h5.lt
    have l9 := q9.lt
    have p4 := q4.pr.1
    obtain ⟨hlo, eo⟩ := lo_bin q4 (h2.le hc (rsq_le o)) q2 (by omega)
    have htru : (haveI := Classical.propDecidable (tru (w m)); if tru (w m) then (1 : Int) else 0) = if o ≤ 24 then 1 else 0 := by
      by_cases y : o ≤ 24
      · rw [if_pos y, if_pos (by unfold tru; omega)]
      · rw [if_neg y, if_neg (by unfold tru; omega)]
    refine ⟨kn1, ft1, e1, g5.cg (fun u v => hO u (by omega)), eo, ?_, ?_, ?_⟩
    · rw [kd_bin hlo (by omega) (by omega) (by omega), htru]
    · rw [fl_bin hlo (by omega) (by omega) (by omega), h4, q2, fst9_a, fst9_a, fst9_a]
    · exact (Cd_bin hlo (by omega) (by omega) (by omega) (by omega) (by omega)).mpr ⟨e', L, q9.cg (fun u _ v => hO u (by omega)), h5.cg (fun u _ v => hO u v), rfl, by rw [q2, hL]; omega, hP⟩
  · omega
  · omega
  · omega
  · omega
/-- '&' or '|' is grouped -/
theorem OPq.gjmp (h : OPq w E pl O P ec i0 s f0 c ((o, m, x) :: t) od mq kn ft L a) (ho : o = 30 ∨ o = 31) (hc : c ≤ rsq o) : ∃ (d : Nat) (od' mq' : List Int) (last left : Int) (kn' : List Int), od = (d : Int) :: od' ∧ mq = 0 :: mq' ∧ kn = last :: left :: kn' ∧ ((last = 0 ∨ last = 1) ∧ (left = 0 ∨ left = 1)) ∧ d < L ∧ ∀ O' P' : Nat → Int, (∀ t, t < L → O' t = O t) → (∀ t, t < L → t ≠ d → P' t = P t) → P' d = L → OPq w E pl O' P' ec i0 s f0 (cst o) t od' mq' (1 :: kn') (fst9 ft (kft (okq (o - 1) left last) (pl m))) L a := by
  obtain ⟨kn', ft', e', ⟨d, od', k, mq', kn1, ft1, e1, g1, g2, g3, g4, g5⟩, h2, h3, h4, h5⟩ := h
  have h2 : Eo w c x a := h2
  have h3 : kn = kdq w E 0 x a :: kn' := h3
  have h4 : ft = fst9 ft' (fl w E pl 0 x a) := h4
  have h5 : Cd w ec pl O P 0 0 0 x a e' L := h5
  have g4 : Gop w E pl O P ec o m x (xs9 i0 t) d k kn1 kn' ft1 ft' e1 e' := g4
  rcases g4 with ⟨q1, -⟩ | ⟨q1, -⟩ | ⟨q1, q2, q3, q4, q6, q7, q8, d9, r1, r2, r3, q9⟩ | ⟨q1, -⟩ | ⟨q1, -⟩ | ⟨q1, -⟩
  · omega
  · omega
  · subst q6 q3 q7 q8 r1 r2
    have p2 := h2.pr
    have hj := p2.1
    have l5 := h5.lt
    have l9 := q9.lt
    have p4 := q4.pr.1
    refine ⟨d9, od', mq', _, _, kn1, g1, g2, h3, ⟨kd_01, kd_01⟩, by omega, fun O' P' hO hP hd => ?_⟩
    obtain ⟨hlo, eo⟩ := lo_bin q4 (h2.le hc (rsq_le o)) q2 (by omega)
    have htru : (haveI := Classical.propDecidable (tru (w m)); if tru (w m) then (1 : Int) else 0) = 1 := by
      rw [if_pos (by unfold tru; omega)]
    refine ⟨kn1, ft1, e1, g5.cg (fun u v => ⟨hO u (by omega), hP u (by omega) (by omega)⟩), eo, ?_, ?_, ?_⟩
    · rw [kd_bin hlo (by omega) (by omega) (by omega), htru]
    · rw [fl_bin hlo (by omega) (by omega) (by omega), h4, q2, fst9_a, fst9_a, fst9_a]
    · exact (Cd_jmp hlo (by omega) (by omega) (by omega)).mpr ⟨d9, q9.cg (fun u _ v => ⟨hO u (by omega), hP u (by omega) (by omega)⟩), by rw [hO d9 (by omega), r3, q2]; omega, hd, h5.cg (fun u v1 v => ⟨hO u v, hP u v (by omega)⟩)⟩
  · omega
  · omega
  · omega
/-- a '?' with its ':' is grouped -/
theorem OPq.gels (h : OPq w E pl O P ec i0 s f0 c ((42, m, x) :: t) od mq kn ft L a) (hc : c ≤ 6) : ∃ (d : Nat) (od' : List Int) (k : Int) (mq' : List Int) (last : Int) (kn' : List Int), od = (d : Int) :: od' ∧ mq = k :: mq' ∧ kn = last :: kn' ∧ ((last = 0 ∨ last = 1) ∧ 0 ≤ k ∧ k ≤ 5) ∧ d < L ∧ ∀ O' P' : Nat → Int, (∀ t, t < L → O' t = O t) → (∀ t, t < L → t ≠ d → P' t = P t) → P' d = L → OPq w E pl O' P' ec i0 s f0 6 t od' mq' (last :: kn') (fst9 ft (kft (k = if last = 1 then 4 else 0) (pl m))) L a := by
  obtain ⟨kn', ft', e', ⟨d, od', k, mq', kn1, ft1, e1, g1, g2, g3, g4, g5⟩, h2, h3, h4, h5⟩ := h
  have h2 : Eo w c x a := h2
  have h3 : kn = kdq w E 0 x a :: kn' := h3
  have h4 : ft = fst9 ft' (fl w E pl 0 x a) := h4
  have h5 : Cd w ec pl O P 0 0 0 x a e' L := h5
  have g4 : Gop w E pl O P ec 42 m x (xs9 i0 t) d k kn1 kn' ft1 ft' e1 e' := g4
  rcases g4 with ⟨q1, -⟩ | ⟨q1, -⟩ | ⟨q1, -⟩ | ⟨q1, -⟩ | ⟨q1, q2, q3, q4, q5, q6, q7, q8, q9, d1, d2, r1, r2, r3, r4, r5, r6, r7⟩ | ⟨q1, -⟩
  · omega
  · omega
  · omega
  · omega
  · subst q8 q9 r1 r2
    have p2 := h2.pr
    have hj := p2.1
    have l5 := h5.lt
    have l6 := r6.lt
    have l7 := r7.lt
    have p3 := q3.pr
    have ex1 : x - 1 + 1 = x := by omega
    have k1 := kd_01 (w := w) (E := E) (c := 0) (i := xs9 i0 t) (j := m)
    have k2 := kd_01 (w := w) (E := E) (c := 0) (i := m + 1) (j := x - 1)
    have k3 := kd_01 (w := w) (E := E) (c := 0) (i := x) (j := a)
    refine ⟨d2, od', k, mq', _, kn', g1, g2, h3, ⟨k3, by rw [q7]; (repeat' split) <;> omega, by rw [q7]; (repeat' split) <;> omega⟩, by omega, fun O' P' hO hP hd => ?_⟩
    have hlo := lo_ask p3 q2 (j := a) (by omega)
    have hcl : clq w m a = x - 1 := clq_eo q5 q6 (by omega)
    have eo : Eo w 6 (xs9 i0 t) a := eo6 q2 q6 q3 q5 (by rw [ex1]; exact h2.le hc (by omega))
    refine ⟨kn', ft1, e1, g5.cg (fun u v => ⟨hO u (by omega), hP u (by omega) (by omega)⟩), eo, ?_, ?_, ?_⟩
    · rw [kd_ask hlo (Nat.le_of_lt p3.1) (by omega) q2 hcl, ex1]
    · rw [fl_ask hlo (Nat.le_of_lt p3.1) (by omega) q2 hcl, h4, ex1, fst9_a, fst9_a, fst9_a, fst9_a, fst9_a]
      refine congrArg (fun z => fst9 ft1 (fst9 _ (fst9 _ (fst9 _ z)))) (kft_iff ?_)
      rw [q7]
      rcases k1 with k1 | k1 <;> rcases k2 with k2 | k2 <;> rcases k3 with k3 | k3 <;> rw [k1, k2, k3] <;> decide
    · refine (Cd_ask hlo (Nat.le_of_lt p3.1) (by omega) q2 hcl).mpr ⟨d1, d2, r6.cg (fun u _ v => ⟨hO u (by omega), hP u (by omega) (by omega)⟩), by rw [hO d1 (by omega)]; exact r3, by rw [hP d1 (by omega) (by omega)]; exact r4, r7.cg (fun u _ v => ⟨hO u (by omega), hP u (by omega) (by omega)⟩), by rw [hO d2 (by omega)]; exact r5, hd, ?_⟩
      rw [ex1]
      exact h5.cg (fun u v1 v => ⟨hO u v, hP u v (by omega)⟩)
  · omega
end OR9
end
section
/-! The class's reader: more steps over its piles. -/
section OS9
variable {w E pl O P O' P' : Nat → Int} {ec : Nat → Int × Int} {i0 s : Nat} {f0 : Int × Int} {gs t : List gqq} {od mq kn : List Int} {ft : Int × Int} {L a m x c : Nat} {o : Int}
theorem lsq_le (o : Int) : lsq o ≤ 6 := by unfold lsq; (repeat' split) <;> omega
/-- behind an operand comes a sign -/
theorem OPq.sbin (h : OPq w E pl O P ec i0 s f0 c gs od mq kn ft L a) (ho : 19 ≤ o ∧ o ≤ 29) (hw : w a = o - 1) (hc : c ≤ lsq o) : GSq w E pl O P ec i0 s f0 ((o, a, a + 1) :: gs) (-1 :: od) (0 :: mq) kn ft L := by
  obtain ⟨kn', ft', e', h1, h2, h3, h4, h5⟩ := h
  exact ⟨-1, od, 0, mq, kn', ft', e', rfl, rfl, Nat.le_of_lt h5.lt, Or.inr (Or.inl ⟨ho, hw, rfl, h2.le hc (lsq_le o), rfl, rfl, h3, h4, h5⟩), h1⟩
theorem OPq.sjmp (h : OPq w E pl O P ec i0 s f0 c gs od mq kn ft L a) (ho : o = 30 ∨ o = 31) (hw : w a = o - 1) (hc : c ≤ lsq o) (hO : ∀ t, t < L → O' t = O t ∧ P' t = P t) (hL : O' L = o) : GSq w E pl O' P' ec i0 s f0 ((o, a, a + 1) :: gs) ((L : Int) :: od) (0 :: mq) kn ft (L + 1) := by
  obtain ⟨kn', ft', e', h1, h2, h3, h4, h5⟩ := h
  have l := h5.lt
  exact ⟨L, od, 0, mq, kn', ft', e', rfl, rfl, by omega, Or.inr (Or.inr (Or.inl ⟨ho, hw, rfl, h2.le hc (lsq_le o), rfl, h3, h4, L, rfl, rfl, hL, h5.cg (fun u _ v => hO u v)⟩)), h1.cg (fun u v => hO u (by omega))⟩
theorem OPq.sask (h : OPq w E pl O P ec i0 s f0 c gs od mq kn ft L a) (hw : w a = 32) (hc : c ≤ 5) (hO : ∀ t, t < L → O' t = O t ∧ P' t = P t) (hL : O' L = 33) : ∃ last kn', kn = last :: kn' ∧ (last = 0 ∨ last = 1) ∧ GSq w E pl O' P' ec i0 s f0 ((33, a, a + 1) :: gs) ((L : Int) :: od) ((if last = 1 then 0 else 1) :: mq) kn' ft (L + 1) := by
  obtain ⟨kn', ft', e', h1, h2, h3, h4, h5⟩ := h
  have l := h5.lt
  exact ⟨_, kn', h3, kd_01, L, od, _, mq, kn', ft', e', rfl, rfl, by omega, Or.inr (Or.inr (Or.inr (Or.inl ⟨rfl, hw, rfl, h2.le hc (by omega), rfl, rfl, h4, L, rfl, rfl, hL, h5.cg (fun u _ v => hO u v)⟩))), h1.cg (fun u v => hO u (by omega))⟩
/-- the ':' of a '?' -/
theorem OPq.colon (h : OPq w E pl O P ec i0 s f0 c ((33, m, x) :: t) od mq kn ft L a) (hw : w a = 33) (hc : c ≤ 6) : ∃ (d : Nat) (od' : List Int) (k : Int) (mq' : List Int) (last : Int) (kn' : List Int), od = (d : Int) :: od' ∧ mq = k :: mq' ∧ kn = last :: kn' ∧ ((last = 0 ∨ last = 1) ∧ (k = 0 ∨ k = 1)) ∧ d < L ∧ ∀ O' P' : Nat → Int, (∀ t, t < L → O' t = O t) → (∀ t, t < L → t ≠ d → P' t = P t) → O' L = 42 → P' d = (L : Int) + 1 → GSq w E pl O' P' ec i0 s f0 ((42, m, a + 1) :: t) ((L : Int) :: od') ((k + if last = 1 then 4 else 0) :: mq') kn' ft (L + 1) := by
  obtain ⟨kn', ft', e', ⟨d, od', k, mq', kn1, ft1, e1, g1, g2, g3, g4, g5⟩, h2, h3, h4, h5⟩ := h
  have h2 : Eo w c x a := h2
  have h3 : kn = kdq w E 0 x a :: kn' := h3
  have h4 : ft = fst9 ft' (fl w E pl 0 x a) := h4
  have h5 : Cd w ec pl O P 0 0 0 x a e' L := h5
  have g4 : Gop w E pl O P ec 33 m x (xs9 i0 t) d k kn1 kn' ft1 ft' e1 e' := g4
  rcases g4 with ⟨q1, -⟩ | ⟨q1, -⟩ | ⟨q1, -⟩ | ⟨q1, q2, q3, q4, q6, q7, q8, d9, r1, r2, r3, q9⟩ | ⟨q1, -⟩ | ⟨q1, -⟩
  · omega
  · omega
  · omega
  · subst q3 q7 q8 r1 r2
    have l5 := h5.lt
    have l9 := q9.lt
    have hj := h2.pr.1
    refine ⟨d9, od', k, mq', _, kn', g1, g2, h3, ⟨kd_01, by rw [q6]; split <;> omega⟩, by omega, fun O' P' hO hP hL hd => ?_⟩
    refine ⟨L, od', _, mq', kn', ft1, e1, rfl, rfl, by omega, Or.inr (Or.inr (Or.inr (Or.inr (Or.inl ⟨rfl, q2, q4, by show m + 1 < a + 1; omega, h2.le hc (by omega), hw, by rw [q6]; rfl, rfl, ?_, d9, L, rfl, rfl, by rw [hO d9 (by omega)]; exact r3, hd, hL, q9.cg (fun u _ v => ⟨hO u (by omega), hP u (by omega) (by omega)⟩), h5.cg (fun u v1 v => ⟨hO u v, hP u v (by omega)⟩)⟩)))), g5.cg (fun u v => ⟨hO u (by omega), hP u (by omega) (by omega)⟩)⟩
    exact h4
  · omega
  · omega
/-- a part of a list is over -/
theorem OPq.part (h : OPq w E pl O P ec i0 s f0 c ((o, m, x) :: t) od mq kn ft L a) (ho : o = 15 ∨ o = 16) (hc : c ≤ 6) : ∃ (od' : List Int) (k : Int) (mq' : List Int) (last : Int) (kn' : List Int), od = -1 :: od' ∧ mq = k :: mq' ∧ kn = last :: kn' ∧ ((last = 0 ∨ last = 1) ∧ (k = 0 ∨ k = 2 ∨ k = 3)) ∧ w m = o - 1 ∧ w (m + 1) = 36 ∧ m = xs9 i0 t ∧ m + 2 < a ∧ Eo w 7 (m + 2) a ∧ kdq w E 1 (m + 2) a = (if k = 3 ∨ last = 1 then 1 else 0) ∧ ∃ ft1 e1, ft = fst9 ft1 (fl w E pl 1 (m + 2) a) ∧ e1 < L ∧ (∀ O' P' : Nat → Int, (∀ t, t < L → O' t = O t ∧ P' t = P t) → GSq w E pl O' P' ec i0 s f0 t od' mq' kn' ft1 e1) ∧ ∀ O' P' : Nat → Int, (∀ t, t < L → O' t = O t ∧ P' t = P t) → (k = 0 → Cd w ec pl O' P' 1 o (pl m) (m + 2) a e1 L) ∧ (k ≠ 0 → O' L = o → P' L = pl m → Cd w ec pl O' P' 1 o (pl m) (m + 2) a e1 (L + 1)) := by
  obtain ⟨kn', ft', e', ⟨d, od', k, mq', kn1, ft1, e1, g1, g2, g3, g4, g5⟩, h2, h3, h4, h5⟩ := h
  have h2 : Eo w c x a := h2
  have h3 : kn = kdq w E 0 x a :: kn' := h3
  have h4 : ft = fst9 ft' (fl w E pl 0 x a) := h4
  have h5 : Cd w ec pl O P 0 0 0 x a e' L := h5
  have g4 : Gop w E pl O P ec o m x (xs9 i0 t) d k kn1 kn' ft1 ft' e1 e' := g4
  have h6 : Eo w 6 x a := h2.le hc (by omega)
  have l5 := h5.lt
  have hj := h6.pr.1
  have k3 := kd_01 (w := w) (E := E) (c := 0) (i := x) (j := a)
  rcases g4 with ⟨q1, -⟩ | ⟨q1, -⟩ | ⟨q1, -⟩ | ⟨q1, -⟩ | ⟨q1, -⟩ | ⟨q1, q2, q3, q4, q5, q6, q7⟩
  · omega
  · omega
  · omega
  · omega
  · omega
  · subst q5 q6
    rcases q7 with ⟨r1, r2, r3, r4⟩ | ⟨r1, r2, r3, r4, r5, r6⟩
    · subst r1 r2 r3 r4
      have l0 := lcq_eo h6 (by omega)
      refine ⟨od', 0, mq', _, kn', g1, g2, h3, ⟨k3, Or.inl rfl⟩, q2, q3, q4, hj, h6.one (by omega), ?_, ft', e', ?_, l5, fun O' P' hO => g5.cg (fun u v => hO u (by omega)), fun O' P' hO => ⟨fun _ => (Cd_l1 hj l0).mpr (h5.cg (fun u _ v => hO u v)), fun q => absurd rfl q⟩⟩
      · rw [kd_l1 hj l0]
        rcases k3 with k3 | k3 <;> rw [k3] <;> decide
      · rw [fl_l1 hj l0]; exact h4
    · have ex1 : x - 1 + 1 = x := by omega
      have h6' : Eo w 6 (x - 1 + 1) a := by rw [ex1]; exact h6
      have l0 := lcq_7 r2 r3 h6'
      have k1 := kd_01 (w := w) (E := E) (c := 1) (i := m + 2) (j := x - 1)
      have l6 := r6.lt
      have hm := r2.pr.1
      refine ⟨od', k, mq', _, kn', g1, g2, h3, ⟨k3, by omega⟩, q2, q3, q4, by omega, eo7 r3 r2 h6', ?_, ft1, e1, ?_, by omega, fun O' P' hO => g5.cg (fun u v => hO u (by omega)), fun O' P' hO => ⟨fun q => by omega, fun _ hL hP => (Cd_ln (m := x - 1) (by omega) l0 (by omega)).mpr ⟨e', L, r6.cg (fun u _ v => hO u (by omega)), by rw [ex1]; exact h5.cg (fun u _ v => hO u v), rfl, hL, hP⟩⟩⟩
      · rw [kd_ln (m := x - 1) (by omega) l0 (by omega), ex1, r4]
        rcases k1 with k1 | k1 <;> rcases k3 with k3 | k3 <;> rw [k1, k3] <;> decide
      · rw [fl_ln (m := x - 1) (by omega) l0 (by omega), ex1, h4, r5, fst9_a]
theorem OPq.comma (h : OPq w E pl O P ec i0 s f0 c ((o, m, x) :: t) od mq kn ft L a) (ho : o = 15 ∨ o = 16) (hc : c ≤ 6) (hw : w a = 35) : ∃ (od' : List Int) (k : Int) (mq' : List Int) (last : Int) (kn' : List Int), od = -1 :: od' ∧ mq = k :: mq' ∧ kn = last :: kn' ∧ ((last = 0 ∨ last = 1) ∧ (k = 0 ∨ k = 2 ∨ k = 3)) ∧ ∀ (O' P' : Nat → Int) (L' : Nat), (∀ t, t < L → O' t = O t ∧ P' t = P t) → (k = 0 → L' = L) → (k ≠ 0 → L' = L + 1 ∧ O' L = o ∧ P' L = pl m) → GSq w E pl O' P' ec i0 s f0 ((o, m, a + 1) :: t) (-1 :: od') ((if k = 3 ∨ last = 1 then 3 else 2) :: mq') kn' ft L' := by
  obtain ⟨od', k, mq', last, kn', h1, h2, h3, h4, h5, h6, h7, h8, h9, h10, ft1, e1, h11, h12, h13, h14⟩ := h.part ho hc
  refine ⟨od', k, mq', last, kn', h1, h2, h3, h4, fun O' P' L' hO hL0 hL1 => ?_⟩
  have cd : Cd w ec pl O' P' 1 o (pl m) (m + 2) a e1 L' := by
    by_cases z : k = 0
    · rw [hL0 z]; exact (h14 O' P' hO).1 z
    · obtain ⟨a1, a2, a3⟩ := hL1 z
      rw [a1]; exact (h14 O' P' hO).2 z a2 a3
  refine ⟨-1, od', _, mq', kn', ft1, e1, rfl, rfl, Nat.le_of_lt cd.lt, Or.inr (Or.inr (Or.inr (Or.inr (Or.inr ⟨ho, h5, h6, h7, rfl, rfl, Or.inr ⟨by show m + 2 < a + 1; omega, h9, hw, ?_, h11, cd⟩⟩)))), h13 O' P' hO⟩
  show (if k = 3 ∨ last = 1 then (3 : Int) else 2) = 2 + kdq w E 1 (m + 2) a
  rw [h10]
  by_cases z : k = 3 ∨ last = 1
  · rw [if_pos z, if_pos z]; rfl
  · rw [if_neg z, if_neg z]; rfl
theorem OPq.clos (h : OPq w E pl O P ec i0 s f0 c ((o, m, x) :: t) od mq kn ft L a) (ho : o = 15 ∨ o = 16) (hc : c ≤ 6) (hw : w a = 37) : ∃ (od' : List Int) (k : Int) (mq' : List Int) (last : Int) (kn' : List Int), od = -1 :: od' ∧ mq = k :: mq' ∧ kn = last :: kn' ∧ ((last = 0 ∨ last = 1) ∧ (k = 0 ∨ k = 2 ∨ k = 3)) ∧ ∀ (O' P' : Nat → Int) (L' : Nat), (∀ t, t < L → O' t = O t ∧ P' t = P t) → (k = 0 → L' = L) → (k ≠ 0 → L' = L + 1 ∧ O' L = o ∧ P' L = pl m) → OPq w E pl O' P' ec i0 s f0 0 t od' mq' (0 :: kn') (fst9 ft (kft (¬ (k = 3 ∨ last = 1)) (pl m))) L' (a + 1) := by
  obtain ⟨od', k, mq', last, kn', h1, h2, h3, h4, h5, h6, h7, h8, h9, h10, ft1, e1, h11, h12, h13, h14⟩ := h.part ho hc
  refine ⟨od', k, mq', last, kn', h1, h2, h3, h4, fun O' P' L' hO hL0 hL1 => ?_⟩
  have cd : Cd w ec pl O' P' 1 o (pl m) (m + 2) a e1 L' := by
    by_cases z : k = 0
    · rw [hL0 z]; exact (h14 O' P' hO).1 z
    · obtain ⟨a1, a2, a3⟩ := hL1 z
      rw [a1]; exact (h14 O' P' hO).2 z a2 a3
  have h15 : w m = 14 ∨ w m = 15 := by omega
  have eo : Eo w 0 m (a + 1) := eo0_lst h15 h6 hw h9
  have hlo := lo_none eo.pr
  refine ⟨kn', ft1, e1, h13 O' P' hO, by rw [← h7]; exact eo, by rw [← h7, kd_num hlo (by omega) (by omega)], ?_, ?_⟩
  · rw [← h7, fl_lst hlo (by omega) h15, show a + 1 - 1 = a by first | rfl | omega, h11, fst9_a]
    refine congrArg (fun z => fst9 ft1 (fst9 _ z)) (kft_iff ?_)
    rw [h10]
    by_cases z : k = 3 ∨ last = 1
    · rw [if_pos z]
      exact ⟨fun q => absurd z q, fun q => absurd q (by decide)⟩
    · rw [if_neg z]
      exact ⟨fun _ => rfl, fun _ => z⟩
  · rw [← h7]
    refine (Cd_lst hlo (by omega) h15).mpr ?_
    rw [show a + 1 - 1 = a by first | rfl | omega, h5, show o - 1 + 1 = o by first | rfl | omega]
    exact cd
theorem OPq.cpar (h : OPq w E pl O P ec i0 s f0 c ((37, m, x) :: t) od mq kn ft L a) (hc : c ≤ 6) (hw : w a = 37) : ∃ (od' mq' : List Int), od = -1 :: od' ∧ mq = 0 :: mq' ∧ OPq w E pl O P ec i0 s f0 0 t od' mq' kn ft L (a + 1) := by
  obtain ⟨kn', ft', e', ⟨d, od', k, mq', kn1, ft1, e1, g1, g2, g3, g4, g5⟩, h2, h3, h4, h5⟩ := h
  have h2 : Eo w c x a := h2
  have h3 : kn = kdq w E 0 x a :: kn' := h3
  have h4 : ft = fst9 ft' (fl w E pl 0 x a) := h4
  have h5 : Cd w ec pl O P 0 0 0 x a e' L := h5
  have g4 : Gop w E pl O P ec 37 m x (xs9 i0 t) d k kn1 kn' ft1 ft' e1 e' := g4
  rcases g4 with ⟨q1, q2, q3, q4, q5, q6, q7, q8⟩ | ⟨q1, -⟩ | ⟨q1, -⟩ | ⟨q1, -⟩ | ⟨q1, -⟩ | ⟨q1, -⟩
  · subst q4 q5 q6 q7 q8
    have hx : x = m + 1 := by omega
    subst hx
    have hw36 : w m = 36 := by omega
    have eo : Eo w 0 m (a + 1) := eo0_par hw36 hw (h2.le hc (by omega))
    have hlo := lo_none eo.pr
    refine ⟨od', mq', g1, g2, kn', ft', e', g5, by rw [← q2]; exact eo, ?_, ?_, ?_⟩
    · rw [← q2, kd_par hlo (by have := h2.pr.1; omega) hw36]; exact h3
    · rw [← q2, fl_par hlo (by have := h2.pr.1; omega) hw36]; exact h4
    · rw [← q2]
      exact (Cd_par hlo (by have := h2.pr.1; omega) hw36).mpr h5
  · omega
  · omega
  · omega
  · omega
  · omega
/-- the rule is over: one operand is left -/
theorem OPq.done (h : OPq w E pl O P ec i0 s f0 c [] od mq kn ft L a) : Eo w c i0 a ∧ kn = [kdq w E 0 i0 a] ∧ ft = fst9 f0 (fl w E pl 0 i0 a) ∧ Cd w ec pl O P 0 0 0 i0 a s L := by
  obtain ⟨kn', ft', e', ⟨-, -, g3, g4, g5⟩, h2, h3, h4, h5⟩ := h
  subst g3 g4 g5
  exact ⟨h2, h3, h4, h5⟩
end OS9
end
section
/-! THE CLASS: its words. -/
section WO
variable {G : mG} {d w T A B D N C k : Nat} {M M' M1 : mM}
/-- the words' places: T the tape, N characters; A sorts, B starts, D amounts, all of C places -/
def WA (M : mM) (w T A B D N C : Nat) : Prop := mK M w = 2 ∧ (mR M w 0 = T ∧ mR M w 3 = A ∧ mR M w 4 = B ∧ mR M w 5 = D) ∧ (mK M T = 32 ∧ N ≤ mN M T) ∧ (mK M A = 30 ∧ mK M B = 30 ∧ mK M D = 30) ∧ (mN M A = C ∧ mN M B = C ∧ mN M D = C) ∧ mI M w 1 = N ∧ N ≤ 16384 ∧ N + 2 ≤ C ∧ (A ≠ B ∧ A ≠ D ∧ B ≠ D)
def woA (w A B D : Nat) : Nat → Prop := fun x => x = w ∨ x = A ∨ x = B ∨ x = D
/-- a word that may stand -/
def wdk (N : Nat) (s st am : Int) : Prop := (1 ≤ s ∧ s ≤ 39) ∧ (0 ≤ st ∧ st < N) ∧ (s = 2 → 1 ≤ am ∧ am ≤ 40 ∧ st + am ≤ N) ∧ (s = 3 → 0 ≤ am ∧ am ≤ 999999999)
/-- k words have been taken -/
def WI (M : mM) (w A B D N k : Nat) : Prop := mI M w 2 = k ∧ ∀ i, i < k → wdk N (mI M A i) (mI M B i) (mI M D i)
theorem WA.fi (h : WA M w T A B D N C) (f : FI (woA w A B D) M M') (h1 : mI M' w 1 = mI M w 1) : WA M' w T A B D N C := by
  obtain ⟨f1, f2, f3, -⟩ := f
  unfold WA at h ⊢
  rw [f1, f2, f3, h1]
  exact h
theorem WA.ne (h : WA M w T A B D N C) : w ≠ A ∧ w ≠ B ∧ w ≠ D ∧ T ≠ w ∧ T ≠ A ∧ T ≠ B ∧ T ≠ D := by
  obtain ⟨h1, -, ⟨h2, -⟩, ⟨h3, h4, h5⟩, -⟩ := h
  refine ⟨fun e => ?_, fun e => ?_, fun e => ?_, fun e => ?_, fun e => ?_, fun e => ?_, fun e => ?_⟩ <;> subst e <;> omega
theorem s_Wo_isDigit {x : Int} (hO : mOk M) (hx : i32 x) : Ci G y_Wo_isDigit d [vi x] M (fun r M' => M' = M ∧ (r = 0 ∨ r = 1) ∧ (r ≠ 0 ↔ 48 ≤ x ∧ x ≤ 57)) :=
  k_Wo_isDigit hO hx (fun v e => by
    by_cases y : x < 48 ∨ 57 < x
    · rw [if_pos y] at e
      exact ⟨rfl, by omega, by omega⟩
    · rw [if_neg y] at e
      exact ⟨rfl, by omega, by omega⟩)
theorem s_Wo_add {s st am : Int} (hs : i32 s) (hst : i32 st) (ham : i32 am) (hO : mOk M) (h : WA M w T A B D N C) (hk : mI M w 2 = k) (hC : k < C) (hC2 : C ≤ 16777216) : Cv G y_Wo_add d [vr w, vi s, vi st, vi am] M (fun M' => mOk M' ∧ FI (woA w A B D) M M' ∧ WA M' w T A B D N C ∧ mI M' w 2 = k + 1 ∧ (∀ i, mI M' A i = if i = k then s else mI M A i) ∧ (∀ i, mI M' B i = if i = k then st else mI M B i) ∧ (∀ i, mI M' D i = if i = k then am else mI M D i)) := by
  obtain ⟨n1, n2, n3, -⟩ := h.ne
  obtain ⟨h1, ⟨p0, p3, p4, p5⟩, h3, ⟨k3, k4, k5⟩, ⟨c3, c4, c5⟩, h6, h7, h8, ⟨d1, d2, d3⟩⟩ := id h
  refine k_Wo_add hO hs hst ham ?_
  rw [p3, c3]
  refine ⟨h1, k3, by omega, fun M4 e4 => ?_⟩
  have a4 : mI M4 w = mI M w := by rw [e4]; funext j; rw [mI_UI, if_neg (fun z => n1 z.1)]
  have R4 : mR M4 = mR M := by rw [e4]; rfl
  have N4 : mN M4 = mN M := by rw [e4]; rfl
  have K4 : mK M4 = mK M := by rw [e4]; rfl
  rw [R4, K4, N4, p4, a4, hk, Int.toNat_natCast, c4]
  refine ⟨k4, by omega, fun M8 e8 => ?_⟩
  have a8 : mI M8 w = mI M w := by rw [e8]; funext j; rw [mI_UI, if_neg (fun z => n2 z.1), a4]
  have R8 : mR M8 = mR M := by rw [e8]; exact R4
  have N8 : mN M8 = mN M := by rw [e8]; exact N4
  have K8 : mK M8 = mK M := by rw [e8]; exact K4
  rw [R8, K8, N8, p5, a8, hk, Int.toNat_natCast, c5]
  refine ⟨k5, by omega, fun M12 e12 => ?_⟩
  have a12 : mI M12 w = mI M w := by rw [e12]; funext j; rw [mI_UI, if_neg (fun z => n3 z.1), a8]
  rw [a12, hk]
  refine ⟨⟨by omega, by omega⟩, fun M15 e15 => ?_⟩
  rw [hk, Int.toNat_natCast] at e4
  have fi : FI (woA w A B D) M M15 := by
    have g4 : FI (woA w A B D) M M4 := by rw [e4]; exact FI.ui (Or.inr (Or.inl rfl))
    have g8 : FI (woA w A B D) M4 M8 := by rw [e8]; exact FI.ui (Or.inr (Or.inr (Or.inl rfl)))
    have g12 : FI (woA w A B D) M8 M12 := by rw [e12]; exact FI.ui (Or.inr (Or.inr (Or.inr rfl)))
    have g15 : FI (woA w A B D) M12 M15 := by rw [e15]; exact FI.ui (Or.inl rfl)
    exact ((g4.trans g8).trans g12).trans g15
  have oO : mOk M15 := by
    have o4 : mOk M4 := by rw [e4]; exact mOk_UI hO hs
    have o8 : mOk M8 := by rw [e8]; exact mOk_UI o4 hst
    have o12 : mOk M12 := by rw [e12]; exact mOk_UI o8 ham
    rw [e15]; exact mOk_UI o12 (⟨by omega, by omega⟩)
  refine ⟨oO, fi, h.fi fi (by rw [e15, mI_UI, if_neg (fun z => absurd z.2 (by decide)), a12]), by rw [e15, mI_UI, if_pos ⟨rfl, rfl⟩], fun i => ?_, fun i => ?_, fun i => ?_⟩
  · rw [e15, mI_UI, if_neg (fun z => n1 z.1.symm), e12, mI_UI, if_neg (fun z => d2 z.1), e8, mI_UI, if_neg (fun z => d1 z.1), e4, mI_UI]
    by_cases y : i = k
    · rw [if_pos y, if_pos ⟨rfl, y⟩]
    · rw [if_neg y, if_neg (fun z => y z.2)]
  · rw [e15, mI_UI, if_neg (fun z => n2 z.1.symm), e12, mI_UI, if_neg (fun z => d3 z.1), e8, mI_UI]
    by_cases y : i = k
    · rw [if_pos y, if_pos ⟨rfl, y⟩]
    · rw [if_neg y, if_neg (fun z => y z.2), e4, mI_UI, if_neg (fun z => d1 z.1.symm)]
  · rw [e15, mI_UI, if_neg (fun z => n3 z.1.symm), e12, mI_UI]
    by_cases y : i = k
    · rw [if_pos y, if_pos ⟨rfl, y⟩]
    · rw [if_neg y, if_neg (fun z => y z.2), e8, mI_UI, if_neg (fun z => d3 z.1.symm), e4, mI_UI, if_neg (fun z => d2 z.1.symm)]
/-- a word is added -/
theorem WI.add {s st am : Int} (h : WI M w A B D N k) (hw : wdk N s st am) (h2 : mI M' w 2 = k + 1) (hA : ∀ i, mI M' A i = if i = k then s else mI M A i) (hB : ∀ i, mI M' B i = if i = k then st else mI M B i) (hD : ∀ i, mI M' D i = if i = k then am else mI M D i) : WI M' w A B D N (k + 1) := by
  refine ⟨by rw [h2]; rfl, fun i hi => ?_⟩
  rw [hA, hB, hD]
  by_cases y : i = k
  · rw [if_pos y, if_pos y, if_pos y]
    exact hw
  · rw [if_neg y, if_neg y, if_neg y]
    exact h.2 i (by omega)
end WO
end
section
/-! The class's words: a number, a name, a word. -/
section WO2
variable {G : mG} {d w T A B D N C k : Nat} {M M' M1 : mM}
/-- what nameSort answers -/
def NSs (G : mG) : Prop := ∀ (d w T A B D N C p n : Nat) (M : mM), mOk M → WA M w T A B D N C → p + n ≤ N → 1 ≤ n → n ≤ 40 → Ci G y_Wo_nameSort (d + 5) [vr w, vi p, vi n] M (fun r M' => M' = M ∧ 2 ≤ r ∧ r ≤ 16 ∧ r ≠ 3)
/-- a word has been taken from place p on -/
def twQ (M : mM) (w T A B D N C k p : Nat) (r : Int) (M' : mM) : Prop := mOk M' ∧ FI (woA w A B D) M M' ∧ WA M' w T A B D N C ∧ WI M' w A B D N (k + 1) ∧ ∃ j : Nat, r = j ∧ p < j ∧ j ≤ N
end WO2
end
section
/-! The class's words: reserve, split, same. A frame with growth for the class. -/
section WO3
variable {G : mG} {d w T A B D N C k n : Nat} {M M' M1 M2 : mM} {S R S' R' : Nat → Prop}
/-- old cells keep kind, length and longs; references but in R, ints but in S -/
def FA (S R : Nat → Prop) (M M' : mM) : Prop := (mZ M ≤ mZ M' ∧ mS M ≤ mS M') ∧ ∀ x, x < mZ M → mK M' x = mK M x ∧ mN M' x = mN M x ∧ mL M' x = mL M x ∧ (¬ R x → mR M' x = mR M x) ∧ (¬ S x → mI M' x = mI M x)
theorem FA.refl : FA S R M M := ⟨⟨Nat.le_refl _, Nat.le_refl _⟩, fun _ _ => ⟨rfl, rfl, rfl, fun _ => rfl, fun _ => rfl⟩⟩
theorem FA.trans (h : FA S R M M1) (k : FA S R M1 M2) : FA S R M M2 := by
  obtain ⟨⟨h1, h2⟩, h3⟩ := h
  obtain ⟨⟨k1, k2⟩, k3⟩ := k
  refine ⟨⟨by omega, by omega⟩, fun x hx => ?_⟩
  obtain ⟨a1, a2, a3, a4, a5⟩ := h3 x hx
  obtain ⟨b1, b2, b3, b4, b5⟩ := k3 x (by omega)
  exact ⟨b1.trans a1, b2.trans a2, b3.trans a3, fun z => (b4 z).trans (a4 z), fun z => (b5 z).trans (a5 z)⟩
theorem FA.mono (h : FA S R M M1) (hS : ∀ x, x < mZ M → S x → S' x) (hR : ∀ x, x < mZ M → R x → R' x) : FA S' R' M M1 :=
  ⟨h.1, fun x hx => ⟨(h.2 x hx).1, (h.2 x hx).2.1, (h.2 x hx).2.2.1, fun z => (h.2 x hx).2.2.2.1 (fun y => z (hR x hx y)), fun z => (h.2 x hx).2.2.2.2 (fun y => z (hS x hx y))⟩⟩
/-- a frame of old cells, whatever happens to new ones -/
theorem FA.trans2 (h : FA S R M M1) (k : FA S' R' M1 M2) (hS : ∀ x, x < mZ M → S' x → S x) (hR : ∀ x, x < mZ M → R' x → R x) : FA S R M M2 := by
  obtain ⟨⟨h1, h2⟩, h3⟩ := h
  obtain ⟨⟨k1, k2⟩, k3⟩ := k
  refine ⟨⟨by omega, by omega⟩, fun x hx => ?_⟩
  obtain ⟨a1, a2, a3, a4, a5⟩ := h3 x hx
  obtain ⟨b1, b2, b3, b4, b5⟩ := k3 x (by omega)
  exact ⟨b1.trans a1, b2.trans a2, b3.trans a3, fun z => (b4 (fun y => z (hR x hx y))).trans (a4 z), fun z => (b5 (fun y => z (hS x hx y))).trans (a5 z)⟩
theorem FI.fa (f : FI S M M1) : FA S R M M1 := by
  obtain ⟨f1, f2, f3, f4, f5, f6, f7⟩ := f
  exact ⟨⟨by rw [f5]; exact Nat.le_refl _, by rw [f6]; exact Nat.le_refl _⟩, fun x _ => ⟨by rw [f1], by rw [f2], by rw [f4], fun _ => by rw [f3], fun z => f7 x z⟩⟩
theorem FA.new {k n c : Nat} (e : M1 = mNew M k n c) : FA S R M M1 := by
  subst e
  refine ⟨⟨by rw [mZ_New]; omega, by rw [mS_New]; omega⟩, fun x hx => ?_⟩
  have hne : x ≠ mZ M := by omega
  refine ⟨by rw [mK_New, if_neg hne], by rw [mN_New, if_neg hne], ?_, fun _ => ?_, fun _ => ?_⟩
  · funext j; rw [mL_New, if_neg hne]
  · funext j; rw [mR_New, if_neg hne]
  · funext j; rw [mI_New, if_neg hne]
theorem FA.ur {a j x : Nat} (ha : R a) (e : M1 = mUR M a j x) : FA S R M M1 := by
  subst e
  refine ⟨⟨Nat.le_refl _, Nat.le_refl _⟩, fun b _ => ⟨rfl, rfl, rfl, fun z => ?_, fun _ => rfl⟩⟩
  funext i
  rw [mR_UR, if_neg (fun q => z (by rw [q.1]; exact ha))]
/-- the words' arrays before a split -/
def WB (M : mM) (w A B D C : Nat) : Prop := mK M w = 2 ∧ (mR M w 3 = A ∧ mR M w 4 = B ∧ mR M w 5 = D) ∧ (mK M A = 30 ∧ mK M B = 30 ∧ mK M D = 30) ∧ (mN M A = C ∧ mN M B = C ∧ mN M D = C) ∧ (A ≠ B ∧ A ≠ D ∧ B ≠ D) ∧ (w < mZ M ∧ A < mZ M ∧ B < mZ M ∧ D < mZ M) ∧ 128 ≤ C ∧ C ≤ 40000
/-- how the arrays grew -/
def grw (M : mM) (A B D C : Nat) (M' : mM) (A' B' D' C' : Nat) : Prop := (A' = A ∧ B' = B ∧ D' = D ∧ C' = C ∧ mZ M' = mZ M ∧ mS M' = mS M) ∨ (A' = mZ M ∧ B' = mZ M + 1 ∧ D' = mZ M + 2 ∧ 2 * C ≤ C' ∧ mZ M' = mZ M + 3 ∧ mS M' = mS M + 3 * C')
theorem s_Wo_reserve {q : Nat} (hO : mOk M) (h : WB M w A B D C) (hq : q ≤ 16400) : Cv G y_Wo_reserve d [vr w, vi q] M (fun M' => ∃ A' B' D' C', mOk M' ∧ WB M' w A' B' D' C' ∧ q ≤ C' ∧ C' ≤ C + 2 * q ∧ FA (fun _ => False) (fun x => x = w) M M' ∧ (∀ i, i ≠ 3 → i ≠ 4 → i ≠ 5 → mR M' w i = mR M w i) ∧ grw M A B D C M' A' B' D' C') := by
  obtain ⟨h1, ⟨p3, p4, p5⟩, ⟨k3, k4, k5⟩, ⟨c3, c4, c5⟩, ⟨d1, d2, d3⟩, ⟨z0, z1, z2, z3⟩, b1, b2⟩ := id h
  refine k_Wo_reserve hO ⟨by omega, by omega⟩ ?_
  rw [p3, c3]
  refine ⟨h1, k3, ?_⟩
  have pw : ∀ i, i ≤ 8 → 128 * 2 ^ i ≤ 128 * 2 ^ 8 := by decide
  suffices H : ∀ (t i l : Nat), 8 ≤ i + t → i ≤ 8 → 128 * 2 ^ i ≤ l → ((i = 0 ∧ l = C) ∨ (2 * C ≤ l ∧ l ≤ 2 * q)) → h_Wo_reserve_8 G d w q l i M (fun M' => ∃ A' B' D' C', mOk M' ∧ WB M' w A' B' D' C' ∧ q ≤ C' ∧ C' ≤ C + 2 * q ∧ FA (fun _ => False) (fun x => x = w) M M' ∧ (∀ i, i ≠ 3 → i ≠ 4 → i ≠ 5 → mR M' w i = mR M w i) ∧ grw M A B D C M' A' B' D' C') from H 8 0 C (by omega) (by omega) (by simpa using b1) (Or.inl ⟨rfl, rfl⟩)
  -- the end
  have fin : ∀ {l : Nat}, q ≤ l → (l = C ∨ (2 * C ≤ l ∧ l ≤ 2 * q)) → mK M w = 2 ∧ mK M (mR M w 3) = 30 ∧ i32 (mN M (mR M w 3) : Int) ∧ (((l : Int) ≤ (mN M (mR M w 3) : Int)) → (∃ A' B' D' C', mOk M ∧ WB M w A' B' D' C' ∧ q ≤ C' ∧ C' ≤ C + 2 * q ∧ FA (fun _ => False) (fun x => x = w) M M ∧ (∀ i, i ≠ 3 → i ≠ 4 → i ≠ 5 → mR M w i = mR M w i) ∧ grw M A B D C M A' B' D' C')) ∧ (¬ ((l : Int) ≤ (mN M (mR M w 3) : Int)) → (((0 : Int) ≤ l ∧ (l : Int) ≤ 16777216) ∧ ∀ M16, M16 = mNew M 30 (Int.toNat l) (Int.toNat l) → mK M16 w = 2 ∧ ∀ M19, M19 = mUR M16 w 3 (mZ M) → ((0 : Int) ≤ l ∧ (l : Int) ≤ 16777216) ∧ ∀ M22, M22 = mNew M19 30 (Int.toNat l) (Int.toNat l) → mK M22 w = 2 ∧ ∀ M25, M25 = mUR M22 w 4 (mZ M19) → ((0 : Int) ≤ l ∧ (l : Int) ≤ 16777216) ∧ ∀ M28, M28 = mNew M25 30 (Int.toNat l) (Int.toNat l) → mK M28 w = 2 ∧ ∀ M31, M31 = mUR M28 w 5 (mZ M25) → (∃ A' B' D' C', mOk M31 ∧ WB M31 w A' B' D' C' ∧ q ≤ C' ∧ C' ≤ C + 2 * q ∧ FA (fun _ => False) (fun x => x = w) M M31 ∧ (∀ i, i ≠ 3 → i ≠ 4 → i ≠ 5 → mR M31 w i = mR M w i) ∧ grw M A B D C M31 A' B' D' C'))) := fun {l} hl hd => by
    rw [p3, c3, Int.toNat_natCast]
    refine ⟨h1, k3, ⟨by omega, by omega⟩, fun y => ⟨A, B, D, C, hO, h, by omega, by omega, FA.refl, fun _ _ _ _ => rfl, Or.inl ⟨rfl, rfl, rfl, rfl, rfl, rfl⟩⟩, fun y => ⟨by omega, fun M16 e16 => ?_⟩⟩
    have ew : w ≠ mZ M := by omega
    have g16 : FA (fun _ => False) (fun x => x = w) M M16 := FA.new e16
    have Z16 : mZ M16 = mZ M + 1 := by rw [e16]; rfl
    refine ⟨by rw [(g16.2 w z0).1]; exact h1, fun M19 e19 => ⟨by omega, fun M22 e22 => ?_⟩⟩
    have g19 := g16.trans (FA.ur (S := fun _ => False) (R := fun x => x = w) rfl e19)
    have Z19 : mZ M19 = mZ M + 1 := by rw [e19]; exact Z16
    have g22 := g19.trans (FA.new (S := fun _ => False) (R := fun x => x = w) e22)
    have Z22 : mZ M22 = mZ M + 2 := by rw [e22, mZ_New, Z19]
    refine ⟨by rw [(g22.2 w z0).1]; exact h1, fun M25 e25 => ⟨by omega, fun M28 e28 => ?_⟩⟩
    have g25 := g22.trans (FA.ur (S := fun _ => False) (R := fun x => x = w) rfl e25)
    have Z25 : mZ M25 = mZ M + 2 := by rw [e25]; exact Z22
    have g28 := g25.trans (FA.new (S := fun _ => False) (R := fun x => x = w) e28)
    have Z28 : mZ M28 = mZ M + 3 := by rw [e28, mZ_New, Z25]
    refine ⟨by rw [(g28.2 w z0).1]; exact h1, fun M31 e31 => ?_⟩
    have g31 := g28.trans (FA.ur (S := fun _ => False) (R := fun x => x = w) rfl e31)
    have Z31 : mZ M31 = mZ M + 3 := by rw [e31]; exact Z28
    have S31 : mS M31 = mS M + 3 * l := by
      rw [e31, mS_UR, e28, mS_New, e25, mS_UR, e22, mS_New, e19, mS_UR, e16, mS_New]
      omega
    have K31 : ∀ x, mK M31 x = if x = mZ M + 2 then 30 else if x = mZ M + 1 then 30 else if x = mZ M then 30 else mK M x := fun x => by
      rw [e31, mK_UR, e28, mK_New, Z25, e25, mK_UR, e22, mK_New, Z19, e19, mK_UR, e16, mK_New]
    have N31 : ∀ x, mN M31 x = if x = mZ M + 2 then l else if x = mZ M + 1 then l else if x = mZ M then l else mN M x := fun x => by
      rw [e31, mN_UR, e28, mN_New, Z25, e25, mN_UR, e22, mN_New, Z19, e19, mN_UR, e16, mN_New]
    have R31 : ∀ i, mR M31 w i = if i = 5 then mZ M + 2 else if i = 4 then mZ M + 1 else if i = 3 then mZ M else mR M w i := fun i => by
      rw [e31, mR_UR, Z25]
      by_cases y5 : i = 5
      · rw [if_pos ⟨rfl, y5⟩, if_pos y5]
      · rw [if_neg (fun z => y5 z.2), if_neg y5, e28, mR_New, if_neg (by omega), e25, mR_UR, Z19]
        by_cases y4 : i = 4
        · rw [if_pos ⟨rfl, y4⟩, if_pos y4]
        · rw [if_neg (fun z => y4 z.2), if_neg y4, e22, mR_New, if_neg (by omega), e19, mR_UR]
          by_cases y3 : i = 3
          · rw [if_pos ⟨rfl, y3⟩, if_pos y3]
          · rw [if_neg (fun z => y3 z.2), if_neg y3, e16, mR_New, if_neg ew]
    have o16 : mOk M16 := by rw [e16]; exact mOk_New hO
    have o19 : mOk M19 := by rw [e19]; exact mOk_UR o16
    have o22 : mOk M22 := by rw [e22]; exact mOk_New o19
    have o25 : mOk M25 := by rw [e25]; exact mOk_UR o22
    have o28 : mOk M28 := by rw [e28]; exact mOk_New o25
    have o31 : mOk M31 := by rw [e31]; exact mOk_UR o28
    have l2 : 2 * C ≤ l ∧ l ≤ 2 * q := by omega
    refine ⟨mZ M, mZ M + 1, mZ M + 2, l, o31, ⟨by rw [K31, if_neg (by omega), if_neg (by omega), if_neg ew]; exact h1, ⟨by rw [R31, if_neg (by decide), if_neg (by decide), if_pos rfl], by rw [R31, if_neg (by decide), if_pos rfl], by rw [R31, if_pos rfl]⟩, ⟨by rw [K31, if_neg (by omega), if_neg (by omega), if_pos rfl], by rw [K31, if_neg (by omega), if_pos rfl], by rw [K31, if_pos rfl]⟩, ⟨by rw [N31, if_neg (by omega), if_neg (by omega), if_pos rfl], by rw [N31, if_neg (by omega), if_pos rfl], by rw [N31, if_pos rfl]⟩, ⟨by omega, by omega, by omega⟩, ⟨by omega, by omega, by omega, by omega⟩, by omega, by omega⟩, hl, by omega, g31, fun i i3 i4 i5 => by rw [R31, if_neg i5, if_neg i4, if_neg i3], Or.inr ⟨rfl, rfl, rfl, l2.1, Z31, S31⟩⟩
  intro t
  induction t with
  | zero =>
    intro i l hi hi8 hl hd
    have i8 : i = 8 := by omega
    subst i8
    refine k_Wo_reserve_8 hO ⟨by omega, by omega⟩ ⟨by omega, by omega⟩ ⟨by omega, by omega⟩ ⟨fun y => fin (by omega) (by omega), fun y => absurd (Or.inr (by omega)) y⟩
  | succ t ih =>
    intro i l hi hi8 hl hd
    refine k_Wo_reserve_8 hO ⟨by omega, by omega⟩ ⟨by omega, by omega⟩ ⟨by omega, by omega⟩ ⟨fun y => fin (by omega) (by omega), fun y => ?_⟩
    have y1 : l < q := by omega
    by_cases e8 : i = 8
    · subst e8
      omega
    · have e2 : 128 * 2 ^ (i + 1) = 2 * (128 * 2 ^ i) := by rw [Nat.pow_succ]; omega
      have := ih (i + 1) (l * 2) (by omega) (by omega) (by omega) (Or.inr (by omega))
      rw [show ((l * 2 : Nat) : Int) = (l : Int) * 2 by first | rfl | omega, show ((i + 1 : Nat) : Int) = (i : Int) + 1 by first | rfl | omega] at this
      exact this
end WO3
end
section
/-! The class's words: split, same. -/
section WO4
variable {G : mG} {d w T A B D N C k n : Nat} {M M' M1 M2 : mM}
/-- the words of a tape: n of them, and the end -/
def Wf (M : mM) (w T A B D N C n : Nat) : Prop := WA M w T A B D N C ∧ mI M w 2 = n + 1 ∧ n ≤ N ∧ (∀ i, i < n → wdk N (mI M A i) (mI M B i) (mI M D i)) ∧ mI M A n = 0 ∧ mI M B n = N
theorem WB.wa (h : WB M w A B D C) (hT : mR M w 0 = T) (kT : mK M T = 32) (nT : N ≤ mN M T) (h1 : mI M w 1 = N) (h2 : N ≤ 16384) (h3 : N + 2 ≤ C) : WA M w T A B D N C := by
  obtain ⟨a1, a2, a3, a4, a5, -⟩ := h
  exact ⟨a1, ⟨hT, a2⟩, ⟨kT, nT⟩, a3, a4, h1, h2, h3, a5⟩
theorem WB.fi {S : Nat → Prop} (h : WB M w A B D C) (f : FI S M M') : WB M' w A B D C := by
  obtain ⟨f1, f2, f3, f4, f5, -⟩ := f
  unfold WB at h ⊢
  rw [f1, f2, f3, f5]
  exact h
end WO4
end
section
/-! The class's programs: places, add, clear. -/
section PRG
variable {G : mG} {d z p O P C n : Nat} {M M' M1 M2 : mM} {S : Nat → Prop}
/-- a program's tables -/
def PL (M : mM) (p : Nat) : Prop := (mR M p 4 = p + 3 ∧ mR M p 5 = p + 4 ∧ mR M p 6 = p + 5 ∧ mR M p 8 = p + 6 ∧ mR M p 9 = p + 7 ∧ mR M p 10 = p + 8 ∧ mR M p 13 = p + 9 ∧ mR M p 14 = p + 10 ∧ mR M p 15 = p + 11 ∧ mR M p 16 = p + 12 ∧ mR M p 17 = p + 13 ∧ mR M p 18 = p + 14 ∧ mR M p 19 = p + 15) ∧ (mK M (p + 3) = 30 ∧ mK M (p + 4) = 30 ∧ mK M (p + 5) = 30 ∧ mK M (p + 6) = 30 ∧ mK M (p + 7) = 30 ∧ mK M (p + 8) = 30 ∧ mK M (p + 9) = 30 ∧ mK M (p + 10) = 30 ∧ mK M (p + 11) = 30 ∧ mK M (p + 12) = 30 ∧ mK M (p + 13) = 30 ∧ mK M (p + 14) = 30 ∧ mK M (p + 15) = 30) ∧ (mN M (p + 3) = 12 ∧ mN M (p + 4) = 12 ∧ mN M (p + 5) = 12 ∧ mN M (p + 6) = 60 ∧ mN M (p + 7) = 60 ∧ mN M (p + 8) = 60 ∧ mN M (p + 9) = 60 ∧ mN M (p + 10) = 60 ∧ mN M (p + 11) = 60 ∧ mN M (p + 12) = 61 ∧ mN M (p + 13) = 480 ∧ mN M (p + 14) = 480 ∧ mN M (p + 15) = 480)
/-- a program: O orders, P operands, of C places; z the end of the class's first cells -/
def PK (M : mM) (z p O P C : Nat) : Prop := mK M p = 6 ∧ (mR M p 0 = O ∧ mR M p 1 = P) ∧ (mK M O = 30 ∧ mK M P = 30 ∧ mN M O = C ∧ mN M P = C) ∧ ((O = p + 1 ∨ z ≤ O) ∧ (P = p + 2 ∨ z ≤ P) ∧ O ≠ P ∧ p + 16 ≤ z) ∧ (z ≤ mZ M ∧ O < mZ M ∧ P < mZ M) ∧ (128 ≤ C ∧ C ≤ 40000) ∧ PL M p
theorem PK.fi (h : PK M z p O P C) (f : FI S M M') : PK M' z p O P C := by
  obtain ⟨f1, f2, f3, f4, f5, -⟩ := f
  unfold PK PL at h ⊢
  rw [f1, f2, f3, f5]
  exact h
/-- what adding an order changes -/
def prS (p O P : Nat) : Nat → Prop := fun x => x = p ∨ x = O ∨ x = P
theorem s_Pr_add {o x : Int} (ho : i32 o) (hx : i32 x) (hO : mOk M) (h : PK M z p O P C) (hn : mI M p 2 = n) (hC : n < C) : Ci G y_Pr_add d [vr p, vi o, vi x] M (fun r M' => r = n ∧ mOk M' ∧ FI (prS p O P) M M' ∧ (∀ j, mI M' p j = if j = 2 then (n : Int) + 1 else mI M p j) ∧ (∀ j, mI M' O j = if j = n then o else mI M O j) ∧ (∀ j, mI M' P j = if j = n then x else mI M P j)) := by
  obtain ⟨h1, ⟨r0, r1⟩, ⟨k0, k1, n0, n1⟩, ⟨a0, a1, a2, a3⟩, -, hc, -⟩ := id h
  have e0 : O ≠ p := by omega
  have e1 : P ≠ p := by omega
  refine k_Pr_add hO ho hx ?_
  rw [r0, n0, hn, Int.toNat_natCast]
  refine ⟨h1, k0, ⟨by omega, by omega⟩, fun y => absurd y (by omega), fun _ => ⟨by omega, fun M13 e13 => ?_⟩⟩
  have a13 : mI M13 p = mI M p := by rw [e13]; funext j; rw [mI_UI, if_neg (fun q => e0 q.1.symm)]
  have R13 : mR M13 = mR M := by rw [e13]; rfl
  have K13 : mK M13 = mK M := by rw [e13]; rfl
  have N13 : mN M13 = mN M := by rw [e13]; rfl
  rw [R13, K13, N13, r1, n1, a13, hn, Int.toNat_natCast]
  refine ⟨k1, by omega, fun M17 e17 => ?_⟩
  have a17 : mI M17 p = mI M p := by rw [e17]; funext j; rw [mI_UI, if_neg (fun q => e1 q.1.symm), a13]
  rw [a17, hn]
  refine ⟨⟨by omega, by omega⟩, fun M20 e20 => ?_⟩
  have o13 : mOk M13 := by rw [e13]; exact mOk_UI hO ho
  have o17 : mOk M17 := by rw [e17]; exact mOk_UI o13 hx
  have o20 : mOk M20 := by rw [e20]; exact mOk_UI o17 ⟨by omega, by omega⟩
  have g13 : FI (prS p O P) M M13 := by rw [e13]; exact FI.ui (Or.inr (Or.inl rfl))
  have g17 : FI (prS p O P) M13 M17 := by rw [e17]; exact FI.ui (Or.inr (Or.inr rfl))
  have g20 : FI (prS p O P) M17 M20 := by rw [e20]; exact FI.ui (Or.inl rfl)
  have ap : ∀ j, mI M20 p j = if j = 2 then (n : Int) + 1 else mI M p j := fun j => by
    rw [e20, mI_UI]
    by_cases y : j = 2
    · rw [if_pos ⟨rfl, y⟩, if_pos y]
    · rw [if_neg (fun q => y q.2), if_neg y, a17]
  refine ⟨by rw [ap, if_pos rfl]; omega, o20, (g13.trans g17).trans g20, ap, fun j => ?_, fun j => ?_⟩
  · rw [e20, mI_UI, if_neg (fun q => e0 q.1), e17, mI_UI, if_neg (fun q => a2 q.1), e13, mI_UI]
    by_cases y : j = n
    · rw [if_pos ⟨rfl, y⟩, if_pos y]
    · rw [if_neg (fun q => y q.2), if_neg y]
  · rw [e20, mI_UI, if_neg (fun q => e1 q.1), e17, mI_UI]
    by_cases y : j = n
    · rw [if_pos ⟨rfl, y⟩, if_pos y]
    · rw [if_neg (fun q => y q.2), if_neg y, e13, mI_UI, if_neg (fun q => a2 q.1.symm)]
/-- how a program's arrays grew -/
def grp (M : mM) (O P C : Nat) (M' : mM) (O' P' C' : Nat) : Prop := (O' = O ∧ P' = P ∧ C' = C ∧ mZ M' = mZ M ∧ mS M' = mS M) ∨ (O' = mZ M ∧ P' = mZ M + 1 ∧ 2 * C ≤ C' ∧ mZ M' = mZ M + 2 ∧ mS M' = mS M + 2 * C')
/-- a program that is cleared, with room for q orders -/
def pcQ (M : mM) (z p O P C q : Nat) (M' : mM) : Prop := ∃ O' P' C', mOk M' ∧ PK M' z p O' P' C' ∧ q ≤ C' ∧ C' ≤ C + 2 * q ∧ FA (fun x => x = p ∨ x = p + 12) (fun x => x = p) M M' ∧ (mI M' p 2 = 0 ∧ mI M' p 3 = 0 ∧ mI M' p 7 = 0 ∧ mI M' p 12 = 0 ∧ mI M' p 11 = -1) ∧ mI M' (p + 12) 0 = 0 ∧ grp M O P C M' O' P' C'
theorem s_Pr_clear {q : Nat} (hO : mOk M) (h : PK M z p O P C) (hq : q ≤ 16400) : Cv G y_Pr_clear d [vr p, vi q] M (pcQ M z p O P C q) := by
  have wl : p < mZ M ∧ p + 12 < mZ M := by have := h.2.2.2.1.2.2.2; have := h.2.2.2.2.1.1; omega
  refine k_Pr_clear hO ⟨by omega, by omega⟩ ⟨h.1, fun M2 e2 M4 e4 M6 e6 M8 e8 M10 e10 => ?_⟩
  have f10 : FI (fun x => x = p ∨ x = p + 12) M M10 := by
    have g2 : FI (fun x => x = p ∨ x = p + 12) M M2 := by rw [e2]; exact FI.ui (Or.inl rfl)
    have g4 : FI (fun x => x = p ∨ x = p + 12) M2 M4 := by rw [e4]; exact FI.ui (Or.inl rfl)
    have g6 : FI (fun x => x = p ∨ x = p + 12) M4 M6 := by rw [e6]; exact FI.ui (Or.inl rfl)
    have g8 : FI (fun x => x = p ∨ x = p + 12) M6 M8 := by rw [e8]; exact FI.ui (Or.inl rfl)
    have g10 : FI (fun x => x = p ∨ x = p + 12) M8 M10 := by rw [e10]; exact FI.ui (Or.inl rfl)
    exact (((g2.trans g4).trans g6).trans g8).trans g10
  have o10 : mOk M10 := by
    have o2 : mOk M2 := by rw [e2]; exact mOk_UI hO ⟨by decide, by decide⟩
    have o4 : mOk M4 := by rw [e4]; exact mOk_UI o2 ⟨by decide, by decide⟩
    have o6 : mOk M6 := by rw [e6]; exact mOk_UI o4 ⟨by decide, by decide⟩
    have o8 : mOk M8 := by rw [e8]; exact mOk_UI o6 ⟨by decide, by decide⟩
    rw [e10]; exact mOk_UI o8 ⟨by decide, by decide⟩
  have v10 : mI M10 p 2 = 0 ∧ mI M10 p 3 = 0 ∧ mI M10 p 7 = 0 ∧ mI M10 p 12 = 0 ∧ mI M10 p 11 = -1 := by
    subst e10 e8 e6 e4 e2
    simp [mI_UI]
  have k10 := h.fi f10
  obtain ⟨-, -, -, -, -, -, PL10⟩ := id k10
  rw [show mR M10 p 16 = p + 12 from PL10.1.2.2.2.2.2.2.2.2.2.1, show mN M10 (p + 12) = 61 from PL10.2.2.2.2.2.2.2.2.2.2.2.1]
  refine ⟨PL10.2.1.2.2.2.2.2.2.2.2.2.1, by omega, fun M14 e14 => ?_⟩
  have f14 : FI (fun x => x = p ∨ x = p + 12) M M14 := f10.trans (by rw [e14]; exact FI.ui (Or.inr rfl))
  have o14 : mOk M14 := by rw [e14]; exact mOk_UI o10 ⟨by decide, by decide⟩
  have v14 : (mI M14 p 2 = 0 ∧ mI M14 p 3 = 0 ∧ mI M14 p 7 = 0 ∧ mI M14 p 12 = 0 ∧ mI M14 p 11 = -1) ∧ mI M14 (p + 12) 0 = 0 := by
    have e : mI M14 p = mI M10 p := by rw [e14]; funext j; rw [mI_UI, if_neg (fun y => by omega)]
    rw [e]
    exact ⟨v10, by rw [e14, mI_UI, if_pos ⟨rfl, rfl⟩]⟩
  have k14 := h.fi f14
  have Z14 : mZ M14 = mZ M := f14.2.2.2.2.1
  have S14 : mS M14 = mS M := f14.2.2.2.2.2.1
  clear e2 e4 e6 e8 e10 e14 k10 PL10 v10 o10 f10
  obtain ⟨h1, ⟨r0, r1⟩, ⟨k0, k1, n0, n1⟩, ⟨a0, a1, a2, a3⟩, ⟨z1, z2, z3⟩, ⟨b1, b2⟩, hPL⟩ := id k14
  rw [r0, n0]
  refine ⟨k0, ?_⟩
  suffices H : ∀ (t i l : Nat), 8 ≤ i + t → i ≤ 8 → 128 * 2 ^ i ≤ l → ((i = 0 ∧ l = C) ∨ (2 * C ≤ l ∧ l ≤ 2 * q)) → h_Pr_clear_40 G d p q l i M14 (pcQ M z p O P C q) from H 8 0 C (by omega) (by omega) (by simpa using b1) (Or.inl ⟨rfl, rfl⟩)
  have fin : ∀ {l : Nat}, q ≤ l → (l = C ∨ (2 * C ≤ l ∧ l ≤ 2 * q)) → mK M14 p = 6 ∧ mK M14 (mR M14 p 0) = 30 ∧ i32 (mN M14 (mR M14 p 0) : Int) ∧ (((l : Int) ≤ (mN M14 (mR M14 p 0) : Int)) → (pcQ M z p O P C q M14)) ∧ (¬ ((l : Int) ≤ (mN M14 (mR M14 p 0) : Int)) → (((0 : Int) ≤ l ∧ (l : Int) ≤ 16777216) ∧ ∀ M30, M30 = mNew M14 30 (Int.toNat l) (Int.toNat l) → mK M30 p = 6 ∧ ∀ M33, M33 = mUR M30 p 0 (mZ M14) → ((0 : Int) ≤ l ∧ (l : Int) ≤ 16777216) ∧ ∀ M36, M36 = mNew M33 30 (Int.toNat l) (Int.toNat l) → mK M36 p = 6 ∧ ∀ M39, M39 = mUR M36 p 1 (mZ M33) → pcQ M z p O P C q M39)) := fun {l} hl hd => by
    rw [r0, n0, Int.toNat_natCast]
    have F14 : FA (fun x => x = p ∨ x = p + 12) (fun x => x = p) M M14 := FI.fa f14
    refine ⟨h1, k0, ⟨by omega, by omega⟩, fun y => ⟨O, P, C, o14, k14, by omega, by omega, F14, v14.1, v14.2, Or.inl ⟨rfl, rfl, rfl, Z14, S14⟩⟩, fun y => ⟨by omega, fun M30 e30 => ?_⟩⟩
    have g30 : FA (fun _ => False) (fun x => x = p) M14 M30 := FA.new e30
    have Z30 : mZ M30 = mZ M14 + 1 := by rw [e30]; rfl
    have pz : p < mZ M14 := by omega
    refine ⟨by rw [(g30.2 p pz).1]; exact h1, fun M33 e33 => ⟨by omega, fun M36 e36 => ?_⟩⟩
    have g33 := g30.trans (FA.ur (S := fun _ => False) (R := fun x => x = p) rfl e33)
    have Z33 : mZ M33 = mZ M14 + 1 := by rw [e33]; exact Z30
    have g36 := g33.trans (FA.new (S := fun _ => False) (R := fun x => x = p) e36)
    have Z36 : mZ M36 = mZ M14 + 2 := by rw [e36, mZ_New, Z33]
    refine ⟨by rw [(g36.2 p pz).1]; exact h1, fun M39 e39 => ?_⟩
    have g39 := g36.trans (FA.ur (S := fun _ => False) (R := fun x => x = p) rfl e39)
    have Z39 : mZ M39 = mZ M14 + 2 := by rw [e39]; exact Z36
    have S39 : mS M39 = mS M14 + 2 * l := by
      rw [e39, mS_UR, e36, mS_New, e33, mS_UR, e30, mS_New]
      omega
    have K39 : ∀ x, mK M39 x = if x = mZ M14 + 1 then 30 else if x = mZ M14 then 30 else mK M14 x := fun x => by
      rw [e39, mK_UR, e36, mK_New, Z33, e33, mK_UR, e30, mK_New]
    have N39 : ∀ x, mN M39 x = if x = mZ M14 + 1 then l else if x = mZ M14 then l else mN M14 x := fun x => by
      rw [e39, mN_UR, e36, mN_New, Z33, e33, mN_UR, e30, mN_New]
    have R39 : ∀ i, mR M39 p i = if i = 1 then mZ M14 + 1 else if i = 0 then mZ M14 else mR M14 p i := fun i => by
      rw [e39, mR_UR, Z33]
      by_cases y1 : i = 1
      · rw [if_pos ⟨rfl, y1⟩, if_pos y1]
      · rw [if_neg (fun q => y1 q.2), if_neg y1, e36, mR_New, if_neg (by omega), e33, mR_UR]
        by_cases y0 : i = 0
        · rw [if_pos ⟨rfl, y0⟩, if_pos y0]
        · rw [if_neg (fun q => y0 q.2), if_neg y0, e30, mR_New, if_neg (by omega)]
    have o30 : mOk M30 := by rw [e30]; exact mOk_New o14
    have o33 : mOk M33 := by rw [e33]; exact mOk_UR o30
    have o36 : mOk M36 := by rw [e36]; exact mOk_New o33
    have o39 : mOk M39 := by rw [e39]; exact mOk_UR o36
    have l2 : 2 * C ≤ l ∧ l ≤ 2 * q := by omega
    have pl : PL M39 p := by
      have kk : ∀ i, i ≤ 15 → mK M39 (p + i) = mK M14 (p + i) := fun i hi => (g39.2 (p + i) (by omega)).1
      have nn : ∀ i, i ≤ 15 → mN M39 (p + i) = mN M14 (p + i) := fun i hi => (g39.2 (p + i) (by omega)).2.1
      have rr : ∀ i, i ≠ 0 → i ≠ 1 → mR M39 p i = mR M14 p i := fun i i0 i1 => by rw [R39, if_neg i1, if_neg i0]
      unfold PL at hPL ⊢
      rw [rr 4 (by decide) (by decide), rr 5 (by decide) (by decide), rr 6 (by decide) (by decide), rr 8 (by decide) (by decide), rr 9 (by decide) (by decide), rr 10 (by decide) (by decide), rr 13 (by decide) (by decide), rr 14 (by decide) (by decide), rr 15 (by decide) (by decide), rr 16 (by decide) (by decide), rr 17 (by decide) (by decide), rr 18 (by decide) (by decide), rr 19 (by decide) (by decide), kk 3 (by omega), kk 4 (by omega), kk 5 (by omega), kk 6 (by omega), kk 7 (by omega), kk 8 (by omega), kk 9 (by omega), kk 10 (by omega), kk 11 (by omega), kk 12 (by omega), kk 13 (by omega), kk 14 (by omega), kk 15 (by omega), nn 3 (by omega), nn 4 (by omega), nn 5 (by omega), nn 6 (by omega), nn 7 (by omega), nn 8 (by omega), nn 9 (by omega), nn 10 (by omega), nn 11 (by omega), nn 12 (by omega), nn 13 (by omega), nn 14 (by omega), nn 15 (by omega)]
      exact hPL
    have vI : mI M39 p = mI M14 p := (g39.2 p pz).2.2.2.2 (fun q => q)
    have vJ : mI M39 (p + 12) = mI M14 (p + 12) := (g39.2 (p + 12) (by omega)).2.2.2.2 (fun q => q)
    refine ⟨mZ M14, mZ M14 + 1, l, o39, ⟨by rw [(g39.2 p pz).1]; exact h1, ⟨by rw [R39, if_neg (by decide), if_pos rfl], by rw [R39, if_pos rfl]⟩, ⟨by rw [K39, if_neg (by omega), if_pos rfl], by rw [K39, if_pos rfl], by rw [N39, if_neg (by omega), if_pos rfl], by rw [N39, if_pos rfl]⟩, ⟨Or.inr z1, Or.inr (by omega), by omega, a3⟩, ⟨by omega, by omega, by omega⟩, ⟨by omega, by omega⟩, pl⟩, hl, by omega, F14.trans2 g39 (fun _ _ q => q.elim) (fun _ _ q => q), by rw [vI]; exact v14.1, by rw [vJ]; exact v14.2, Or.inr ⟨by omega, by omega, l2.1, by omega, by omega⟩⟩
  intro t
  induction t with
  | zero =>
    intro i l hi hi8 hl hd
    have i8 : i = 8 := by omega
    subst i8
    refine k_Pr_clear_40 o14 ⟨by omega, by omega⟩ ⟨by omega, by omega⟩ ⟨by omega, by omega⟩ ⟨fun y => fin (by omega) (by omega), fun y => absurd (Or.inr (by omega)) y⟩
  | succ t ih =>
    intro i l hi hi8 hl hd
    refine k_Pr_clear_40 o14 ⟨by omega, by omega⟩ ⟨by omega, by omega⟩ ⟨by omega, by omega⟩ ⟨fun y => fin (by omega) (by omega), fun y => ?_⟩
    have y1 : l < q := by omega
    by_cases e8 : i = 8
    · subst e8
      omega
    · have e2 : 128 * 2 ^ (i + 1) = 2 * (128 * 2 ^ i) := by rw [Nat.pow_succ]; omega
      have := ih (i + 1) (l * 2) (by omega) (by omega) (by omega) (Or.inr (by omega))
      rw [show ((l * 2 : Nat) : Int) = (l : Int) * 2 by first | rfl | omega, show ((i + 1 : Nat) : Int) = (i : Int) + 1 by first | rfl | omega] at this
      exact this
end PRG
end
section
/-! The class's reader of rules: places, and its small steps. -/
section RRD
variable {G : mG} {d z r w T A B D N C n p O P K k a : Nat} {M M' M1 M2 : mM} {S : Nat → Prop}
/-- the reader's places -/
def RK (M : mM) (r : Nat) : Prop := mK M r = 4 ∧ (mR M r 8 = r + 1 ∧ mR M r 9 = r + 2 ∧ mR M r 10 = r + 3 ∧ mR M r 11 = r + 4 ∧ mR M r 13 = r + 5 ∧ mR M r 15 = r + 6 ∧ mR M r 16 = r + 7 ∧ mR M r 17 = r + 8 ∧ mR M r 18 = r + 9) ∧ (mK M (r + 1) = 30 ∧ mK M (r + 2) = 30 ∧ mK M (r + 3) = 30 ∧ mK M (r + 4) = 30 ∧ mK M (r + 5) = 31 ∧ mK M (r + 6) = 30 ∧ mK M (r + 7) = 30 ∧ mK M (r + 8) = 30 ∧ mK M (r + 9) = 31) ∧ (mN M (r + 1) = 336 ∧ mN M (r + 2) = 336 ∧ mN M (r + 3) = 336 ∧ mN M (r + 4) = 336 ∧ mN M (r + 5) = 336 ∧ mN M (r + 6) = 72 ∧ mN M (r + 7) = 72 ∧ mN M (r + 8) = 72 ∧ mN M (r + 9) = 72)
theorem RK.fi (h : RK M r) (f : FI S M M') : RK M' r := by
  obtain ⟨f1, f2, f3, -⟩ := f
  unfold RK at h ⊢
  rw [f1, f2, f3]
  exact h
/-- the cells that reading a rule may change -/
def rdS (r p O P : Nat) : Nat → Prop := fun x => (r ≤ x ∧ x ≤ r + 9) ∨ x = p ∨ x = O ∨ x = P
/-- words, program and reader lie apart -/
def Spr (z r w T A B D p O P : Nat) : Prop := r + 9 < z ∧ (r + 9 < p ∨ p + 15 < r) ∧ ∀ x, (x = w ∨ x = T ∨ x = A ∨ x = B ∨ x = D) → ¬ ((r ≤ x ∧ x ≤ r + 9) ∨ (p ≤ x ∧ x ≤ p + 15) ∨ x = O ∨ x = P)
/-- the reader while it reads: words w, program p -/
def RB (M : mM) (z r w T A B D N C n p O P K : Nat) : Prop := mOk M ∧ RK M r ∧ (mR M r 0 = w ∧ mR M r 1 = p) ∧ Wf M w T A B D N C n ∧ PK M z p O P K ∧ Spr z r w T A B D p O P ∧ n + 1 ≤ K
theorem Wf.fi (h : Wf M w T A B D N C n) (f : FI S M M') (hS : ∀ x, (x = w ∨ x = T ∨ x = A ∨ x = B ∨ x = D) → ¬ S x) : Wf M' w T A B D N C n := by
  obtain ⟨f1, f2, f3, f4, f5, f6, f7⟩ := f
  unfold Wf WA at h ⊢
  rw [f1, f2, f3, f7 w (hS w (Or.inl rfl)), f7 A (hS A (Or.inr (Or.inr (Or.inl rfl)))), f7 B (hS B (Or.inr (Or.inr (Or.inr (Or.inl rfl))))), f7 D (hS D (Or.inr (Or.inr (Or.inr (Or.inr rfl)))))]
  exact h
theorem RB.fi (h : RB M z r w T A B D N C n p O P K) (o : mOk M') (f : FI (rdS r p O P) M M') : RB M' z r w T A B D N C n p O P K := by
  obtain ⟨-, h2, h3, h4, h5, h6, h7⟩ := h
  refine ⟨o, h2.fi f, by rw [f.2.2.1]; exact h3, h4.fi f (fun x hx q => h6.2.2 x hx ?_), h5.fi f, h6, h7⟩
  have q' : (r ≤ x ∧ x ≤ r + 9) ∨ x = p ∨ x = O ∨ x = P := q
  omega
/-- a field of the reader is written -/
theorem rb_fld {j : Nat} {v : Int} (h : RB M z r w T A B D N C n p O P K) (hv : i32 v) (e : M' = mUI M r j v) : RB M' z r w T A B D N C n p O P K ∧ FI (rdS r p O P) M M' ∧ (∀ i, mI M' r i = if i = j then v else mI M r i) ∧ (∀ x, x ≠ r → mI M' x = mI M x) := by
  have f : FI (rdS r p O P) M M' := by rw [e]; exact FI.ui (Or.inl ⟨Nat.le_refl _, by omega⟩)
  refine ⟨h.fi (by rw [e]; exact mOk_UI h.1 hv) f, f, fun i => ?_, fun x hx => ?_⟩
  · rw [e, mI_UI]
    by_cases y : i = j
    · rw [if_pos ⟨rfl, y⟩, if_pos y]
    · rw [if_neg (fun q => y q.2), if_neg y]
  · rw [e]; funext i; rw [mI_UI, if_neg (fun q => hx q.1)]
/-- a place of the reader's tables is written -/
theorem rb_tab {i j : Nat} {v : Int} (h : RB M z r w T A B D N C n p O P K) (h1 : 1 ≤ i) (h9 : i ≤ 9) (hv : i32 v) (e : M' = mUI M (r + i) j v) : RB M' z r w T A B D N C n p O P K ∧ FI (rdS r p O P) M M' ∧ (∀ x, mI M' (r + i) x = if x = j then v else mI M (r + i) x) ∧ (∀ x, x ≠ r + i → mI M' x = mI M x) := by
  have f : FI (rdS r p O P) M M' := by rw [e]; exact FI.ui (Or.inl ⟨by omega, by omega⟩)
  refine ⟨h.fi (by rw [e]; exact mOk_UI h.1 hv) f, f, fun x => ?_, fun x hx => ?_⟩
  · rw [e, mI_UI]
    by_cases y : x = j
    · rw [if_pos ⟨rfl, y⟩, if_pos y]
    · rw [if_neg (fun q => y q.2), if_neg y]
  · rw [e]; funext i; rw [mI_UI, if_neg (fun q => hx q.1)]
theorem s_RR_here (h : RB M z r w T A B D N C n p O P K) (ha : mI M r 2 = a) (han : a ≤ n) : Ci G y_RR_here d [vr r] M (fun x M' => M' = M ∧ x = mI M B a ∧ 0 ≤ x ∧ x ≤ 16384) := by
  obtain ⟨hO, hK, ⟨r0, r1⟩, hW, -⟩ := id h
  obtain ⟨⟨w1, ⟨p0, p3, p4, p5⟩, -, ⟨k3, k4, k5⟩, ⟨c3, c4, c5⟩, w6, w7, w8, -⟩, e2, hnN, hw, hA, hB⟩ := id hW
  refine k_RR_here hO ?_
  rw [r0, p4, ha, Int.toNat_natCast, c4]
  refine ⟨hK.1, w1, k4, by omega, rfl, rfl, ?_⟩
  by_cases y : a = n
  · rw [y, hB]
    omega
  · have := (hw a (by omega)).2.1
    omega
theorem s_RR_accept {x : Int} (hx : i32 x) (h : RB M z r w T A B D N C n p O P K) (ha : mI M r 2 = a) (han : a ≤ n) : Ci G y_RR_accept d [vr r, vi x] M (fun v M' => RB M' z r w T A B D N C n p O P K ∧ ((v = 1 ∧ mI M A a = x ∧ M' = mUI M r 2 ((a : Int) + 1) ∧ mI M' r 2 = a + 1) ∨ (v = 0 ∧ mI M A a ≠ x ∧ M' = M))) := by
  obtain ⟨hO, hK, ⟨r0, r1⟩, hW, -⟩ := id h
  obtain ⟨⟨w1, ⟨p0, p3, p4, p5⟩, -, ⟨k3, k4, k5⟩, ⟨c3, c4, c5⟩, w6, w7, w8, -⟩, e2, hnN, hw, hA, hB⟩ := id hW
  refine k_RR_accept hO hx ?_
  rw [r0, p3, ha, Int.toNat_natCast, c3]
  refine ⟨hK.1, w1, k3, by omega, fun y => ⟨⟨by omega, by omega⟩, fun M9 e9 => ?_⟩, fun y => ⟨h, Or.inr ⟨rfl, y, rfl⟩⟩⟩
  obtain ⟨h9, f9, g9, -⟩ := rb_fld h ⟨by omega, by omega⟩ e9
  exact ⟨h9, Or.inl ⟨rfl, y, e9, by rw [g9, if_pos rfl]⟩⟩
theorem s_RR_note {x y : Int} (hx : i32 x) (hy : i32 y) (h : RB M z r w T A B D N C n p O P K) : Cv G y_RR_note d [vr r, vi x, vi y] M (fun M' => RB M' z r w T A B D N C n p O P K ∧ FI (fun b => b = r) M M' ∧ (∀ i, i ≠ 3 → i ≠ 4 → mI M' r i = mI M r i) ∧ (mI M r 3 = 0 → mI M' r 3 = x) ∧ (mI M r 3 ≠ 0 → mI M' r 3 = mI M r 3)) := by
  refine k_RR_note h.1 hx hy ⟨h.2.1.1, fun e M5 e5 M7 e7 => ?_, fun e => ⟨h, FI.refl, fun _ _ _ => rfl, fun q => absurd q e, fun _ => rfl⟩⟩
  obtain ⟨h5, -, g5, -⟩ := rb_fld h hx e5
  obtain ⟨h7, -, g7, -⟩ := rb_fld h5 hy e7
  have f5 : FI (fun b => b = r) M M5 := by rw [e5]; exact FI.ui rfl
  have f7 : FI (fun b => b = r) M5 M7 := by rw [e7]; exact FI.ui rfl
  exact ⟨h7, f5.trans f7, fun i i3 i4 => by rw [g7, if_neg i4, g5, if_neg i3], fun _ => by rw [g7, if_neg (by decide), g5, if_pos rfl], fun q => absurd e q⟩
/-- how tight an operation binds -/
def lvl (o : Int) : Int := if 19 ≤ o ∧ o ≤ 24 then 4 else if o = 25 ∨ o = 26 then 5 else if 27 ≤ o ∧ o ≤ 29 then 6 else if o = 30 then 2 else if o = 31 then 1 else if o = 41 then 3 else 0
theorem s_RR_level {o : Int} (ho : i32 o) (hO : mOk M) : Ci G y_RR_level d [vi o] M (fun x M' => M' = M ∧ x = lvl o) := by
  refine k_RR_level hO ho ⟨fun q => ⟨rfl, ?_⟩, fun q1 => ⟨fun q => ⟨rfl, ?_⟩, fun q2 => ⟨fun q => ⟨rfl, ?_⟩, fun q3 => ⟨fun q => ⟨rfl, ?_⟩, fun q4 => ⟨fun q => ⟨rfl, ?_⟩, fun q5 => ⟨fun q => ⟨rfl, ?_⟩, fun q6 => ⟨rfl, ?_⟩⟩⟩⟩⟩⟩⟩ <;> unfold lvl <;> (repeat' split) <;> omega
theorem lvl_b (o : Int) : 0 ≤ lvl o ∧ lvl o ≤ 6 := by unfold lvl; (repeat' split) <;> omega
/-- a kind is put on the pile -/
theorem s_RR_pushKind {v : Int} {c : Nat} (hv : v = 0 ∨ v = 1) (h : RB M z r w T A B D N C n p O P K) (hc : mI M r 14 = c) (h3 : c < 336) : Cv G y_RR_pushKind d [vr r, vi v] M (fun M' => RB M' z r w T A B D N C n p O P K ∧ FI (fun b => b = r ∨ b = r + 5) M M' ∧ (∀ i, mI M' r i = if i = 14 then (c : Int) + 1 else mI M r i) ∧ (∀ i, mI M' (r + 5) i = if i = c then v else mI M (r + 5) i)) := by
  obtain ⟨hO, hK, -⟩ := id h
  obtain ⟨k0, ⟨-, -, -, -, q13, -⟩, ⟨-, -, -, -, k5, -⟩, ⟨-, -, -, -, n5, -⟩⟩ := id hK
  refine k_RR_pushKind hO (i32s (by omega) (by omega)) ⟨k0, fun y => absurd y (by omega), fun y => ⟨⟨by omega, by omega⟩, fun M10 e10 => ?_⟩⟩
  rw [hc] at e10
  obtain ⟨h10, -, g10, u10⟩ := rb_fld h ⟨by omega, by omega⟩ e10
  obtain ⟨-, hK10, -⟩ := id h10
  rw [q13, hc, Int.toNat_natCast, show mN M10 (r + 5) = 336 from hK10.2.2.2.2.2.2.2.1]
  refine ⟨hK10.2.2.1.2.2.2.2.1, by omega, hv, fun M15 e15 => ?_⟩
  obtain ⟨h15, -, g15, u15⟩ := rb_tab h10 (i := 5) (by omega) (by omega) (i32s (by omega) (by omega)) e15
  have f10 : FI (fun b => b = r ∨ b = r + 5) M M10 := by rw [e10]; exact FI.ui (Or.inl rfl)
  have f15 : FI (fun b => b = r ∨ b = r + 5) M10 M15 := by rw [e15]; exact FI.ui (Or.inr rfl)
  exact ⟨h15, f10.trans f15, fun i => by rw [u15 r (by omega), g10], fun i => by rw [g15, u10 (r + 5) (by omega)]⟩
/-- a kind is taken -/
theorem s_RR_popKind {c : Nat} (h : RB M z r w T A B D N C n p O P K) (hc : mI M r 14 = ((c + 1 : Nat) : Int)) (h3 : c < 336) : Ci G y_RR_popKind d [vr r] M (fun v M' => (v = 0 ∨ v = 1) ∧ RB M' z r w T A B D N C n p O P K ∧ FI (fun b => b = r) M M' ∧ (∀ i, mI M' r i = if i = 14 then (c : Int) else mI M r i)) := by
  obtain ⟨hO, hK, -⟩ := id h
  obtain ⟨k0, ⟨-, -, -, -, q13, -⟩, ⟨-, -, -, -, k5, -⟩, ⟨-, -, -, -, n5, -⟩⟩ := id hK
  refine k_RR_popKind hO ⟨k0, fun y => ?_, fun v e M9 e9 => ?_⟩
  · have o' : mOk (mUI M r 14 ((mI M r 14) - 1)) := mOk_UI hO ⟨by omega, by omega⟩
    refine ⟨⟨by omega, by omega⟩, ?_⟩
    rw [q13, mK_UI, mN_UI, n5]
    exact ⟨k5, by omega, (o' _ _).1⟩
  · rw [if_neg (by omega), hc, show ((c + 1 : Nat) : Int) - 1 = (c : Int) by first | rfl | omega] at e9
    obtain ⟨h9, -, g9, -⟩ := rb_fld h ⟨by omega, by omega⟩ e9
    refine ⟨h9.1, by rw [e]; split <;> omega, h9, by rw [e9]; exact FI.ui rfl, g9⟩
end RRD
end
end
