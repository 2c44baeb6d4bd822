section
/-! The reference: where an item ends. -/
section SGM
variable {w : Nat → Int}
/-- parentheses close, no question is open, and no ; stands here -/
def Sg (w : Nat → Int) (i j : Nat) : Prop := i ≤ j ∧ dp w i (j - i) = 0 ∧ aq w i (j - i) ≤ 0 ∧ ∀ m, i ≤ m → m < j → w m ≠ 34
theorem Sg.app {i m j : Nat} (h1 : Sg w i m) (h2 : Sg w m j) : Sg w i j := by
  obtain ⟨a1, a2, a3, a4⟩ := h1
  obtain ⟨b1, b2, b3, b4⟩ := h2
  have e : j - i = (m - i) + (j - m) := by omega
  have ei : i + (m - i) = m := by omega
  refine ⟨by omega, ?_, ?_, fun k k1 k2 => ?_⟩
  · rw [e, dp_app, a2, ei, b2]; omega
  · rw [e, aq_app a2, ei]; omega
  · by_cases z : k < m
    · exact a4 k k1 z
    · exact b4 k (by omega) k2
theorem Sg.w1 {i : Nat} (h1 : w i ≠ 32) (h2 : w i ≠ 34) (h3 : w i ≠ 36) (h4 : w i ≠ 37) : Sg w i (i + 1) := by
  rw [Sg, show i + 1 - i = 0 + 1 by omega, dp_s, aq_s]
  refine ⟨by omega, ?_, ?_, fun m m1 m2 => by rw [show m = i by omega]; exact h2⟩
  · rw [show i + 0 = i by omega, if_neg h3, if_neg h4]; rfl
  · rw [show i + 0 = i by omega, if_neg h1]
    show (if (0 : Int) < 0 then (0 : Int) else 0 + (if w i = 33 then -1 else 0)) ≤ 0
    rw [if_neg (by omega)]
    split <;> omega
theorem Sg.bl {i j : Nat} (hij : i ≤ j) (h : Bl w i (j - i)) : Sg w i j := by
  refine ⟨hij, h.1, by rw [h.2.1]; omega, fun m m1 m2 => ?_⟩
  have := (h.2.2.2 (m - i) (by omega)).1
  rw [show i + (m - i) = m by omega] at this
  unfold rwd at this
  omega
theorem Sg.eo {c i j : Nat} (h : Eo w c i j) : Sg w i j := Sg.bl (by have := h.pr.1; omega) h.pr.2.2.2.2.1
/-- a set in its parentheses -/
theorem Sg.set {p c : Nat} (h0 : w p = 36) (h1 : w (p + 1) = 1) (h2 : w (p + 2) = 38) (h3 : w (p + 3) = 23) (h4 : Eo w 6 (p + 4) c) (h5 : w c = 37) : Sg w p (c + 1) ∧ (∀ m, 1 ≤ m → m ≤ c - p → 1 ≤ dp w p m) ∧ dp w p (c + 1 - p) = 0 := by
  have hlt := h4.pr.1
  have hb := h4.pr.2.2.2.2.1
  have e0 : dp w p 0 = 0 := rfl
  have e1 : dp w p 1 = 1 := by rw [show (1 : Nat) = 0 + 1 by omega, dp_s, show p + 0 = p by omega, if_pos h0, e0]; rfl
  have e2 : dp w p 2 = 1 := by rw [show (2 : Nat) = 1 + 1 by omega, dp_s, if_neg (by omega), if_neg (by omega), e1]; rfl
  have e3 : dp w p 3 = 1 := by rw [show (3 : Nat) = 2 + 1 by omega, dp_s, if_neg (by omega), if_neg (by omega), e2]; rfl
  have e4 : dp w p 4 = 1 := by rw [show (4 : Nat) = 3 + 1 by omega, dp_s, if_neg (by omega), if_neg (by omega), e3]; rfl
  have up : ∀ m, 1 ≤ m → m ≤ c - p → 1 ≤ dp w p m := fun m m1 m2 => by
    by_cases z : m < 4
    · have : m = 1 ∨ m = 2 ∨ m = 3 := by omega
      rcases this with y | y | y <;> rw [y]
      · omega
      · omega
      · omega
    · have := (hb.2.2.1 (m - 4) (by omega)).1
      rw [show m = 4 + (m - 4) by omega, dp_app, e4]
      omega
  have dc : dp w p (c - p) = 1 := by
    rw [show c - p = 4 + (c - (p + 4)) by omega, dp_app, e4, hb.1]; rfl
  have d1 : dp w p (c + 1 - p) = 0 := by
    rw [show c + 1 - p = (c - p) + 1 by omega, dp_s, dc, show p + (c - p) = c by omega, if_neg (by omega), if_pos h5]; rfl
  have a0 : ∀ m, m ≤ c - p → aq w p (m + 1) = 0 := by
    intro m
    induction m with
    | zero =>
      intro _
      rw [aq_s, e0, if_neg (by omega), show p + 0 = p by omega, if_neg (by omega), if_neg (by omega)]; rfl
    | succ m ih =>
      intro hm
      rw [aq_s, if_pos (by have := up (m + 1) (by omega) hm; omega)]
      exact ih (by omega)
  refine ⟨⟨by omega, d1, ?_, fun m m1 m2 => ?_⟩, up, d1⟩
  · rw [show c + 1 - p = (c - p) + 1 by omega, a0 (c - p) (Nat.le_refl _)]
    omega
  · by_cases z : m < p + 4
    · have : m = p ∨ m = p + 1 ∨ m = p + 2 ∨ m = p + 3 := by omega
      rcases this with y | y | y | y <;> rw [y] <;> omega
    · by_cases y : m = c
      · rw [y]; omega
      · exact (Sg.eo h4).2.2.2 m (by omega) (by omega)
theorem Se.sg : ∀ {f p q : Nat}, Se w f p q → Sg w p q := by
  intro f
  induction f with
  | zero => intro p q h; exact h.elim
  | succ f ih =>
    intro p q h
    obtain ⟨h0, h1, h2, h3, c, h4, h5, h6⟩ := h
    have s := (Sg.set h0 h1 h2 h3 h4 h5).1
    rcases h6 with ⟨z, -⟩ | ⟨z, y⟩
    · rw [z]; exact s
    · exact (s.app (Sg.w1 (by omega) (by omega) (by omega) (by omega))).app (ih y)
theorem Ss.sg {p s : Nat} (h : Ss w p s) : Sg w p s := by
  rcases h with ⟨h1, h2⟩ | ⟨-, f, h⟩
  · rw [h2]; exact Sg.w1 (by omega) (by omega) (by omega) (by omega)
  · exact h.sg
theorem Br.sg : ∀ {f p e : Nat}, Br w f p e → Sg w p e := by
  intro f
  induction f with
  | zero => intro p q h; exact h.elim
  | succ f ih =>
    intro p e h
    obtain ⟨q, s, h1, h2, h3, h4⟩ := h
    have k := ((Sg.eo h1).app (Sg.w1 (by omega) (by omega) (by omega) (by omega))).app h3.sg
    rcases h4 with ⟨z, -⟩ | ⟨z, y⟩
    · rw [← z]; exact k
    · exact (k.app (Sg.w1 (by omega) (by omega) (by omega) (by omega))).app (ih y)
theorem Vs.sg {p i : Nat} (h : Vs w p i) : Sg w p i := by
  rcases h with ⟨h1, h2⟩ | ⟨-, j, h1, h2, h3⟩
  · rw [h2]; exact Sg.w1 (by omega) (by omega) (by omega) (by omega)
  · exact ((Sg.eo h1).app (Sg.w1 (by omega) (by omega) (by omega) (by omega))).app (Sg.eo h3)
theorem It.sg {k e : Nat} (h : It w k e) : Sg w k e := by
  obtain ⟨-, -, h⟩ := h
  have w3 : ∀ {i : Nat}, (w k ≠ 32 ∧ w k ≠ 34 ∧ w k ≠ 36 ∧ w k ≠ 37) → w (k + 1) = 1 → (w (k + 2) = 23 ∨ w (k + 2) = 33) → Sg w (k + 3) i → Sg w k i := fun h0 h1 h2 h3 => (((Sg.w1 (i := k) h0.1 h0.2.1 h0.2.2.1 h0.2.2.2).app (Sg.w1 (i := k + 1) (by omega) (by omega) (by omega) (by omega))).app (Sg.w1 (i := k + 2) (by omega) (by omega) (by omega) (by omega))).app h3
  rcases h with ⟨h0, h1, h2, h3⟩ | ⟨h0, h1, h2, i, h3, h4⟩ | ⟨h0, j, f, h1, h2, h3⟩ | ⟨h0, h1⟩
  · exact w3 ⟨by omega, by omega, by omega, by omega⟩ h1 (Or.inl h2) (Sg.eo h3)
  · have s := w3 ⟨by omega, by omega, by omega, by omega⟩ h1 (Or.inr h2) h3.sg
    rcases h4 with ⟨-, z⟩ | ⟨z, y⟩
    · rw [← z]; exact s
    · exact (s.app (Sg.w1 (i := i) (by omega) (by omega) (by omega) (by omega))).app (Sg.eo y)
  · exact (((Sg.w1 (i := k) (by omega) (by omega) (by omega) (by omega)).app (Sg.eo h1)).app (Sg.w1 (i := j) (by omega) (by omega) (by omega) (by omega))).app h3.sg
  · exact (Sg.w1 (i := k) (by omega) (by omega) (by omega) (by omega)).app (Sg.eo h1)
end SGM
section UNT
variable {G : mG} {d a N : Nat} {M : mM}
theorem s_until_end {k e : Nat} (hO : mOk M) (h : Wn M a N) (hi : It (wk M a) k e) (he : e < N) : Ci G y_MM_until (d + 2) [vr a, vi k, vi 34] M (fun x M' => M' = M ∧ x = e) := by
  have s := hi.sg
  exact s_MM_until ⟨by decide, by decide⟩ hO h s.1 he hi.1 (by rw [s.2.1]; omega) s.2.2.1 (fun t ht q => s.2.2.2 (k + t) (by omega) (by omega) q.1)
theorem s_until_bl {i j : Nat} {s : Int} (hO : mOk M) (h : Wn M a N) (hij : i ≤ j) (hb : Bl (wk M a) i (j - i)) (hj : j < N) (h1 : wk M a j = s) (hs : s = 16 ∨ s = 17 ∨ s = 33) : Ci G y_MM_until (d + 2) [vr a, vi i, vi s] M (fun x M' => M' = M ∧ x = j) := by
  refine s_MM_until ⟨by omega, by omega⟩ hO h hij hj h1 (by rw [hb.1]; omega) (by rw [hb.2.1]; omega) (fun t ht q => ?_)
  obtain ⟨q1, q2, q3⟩ := q
  have b := hb.2.2.1 t (by omega)
  have c := hb.2.2.2 t ht
  rcases hs with z | z | z
  · have := c.1; unfold rwd at this; omega
  · have := c.1; unfold rwd at this; omega
  · exact c.2 (by omega) (by omega) (by omega)
end UNT
end
section
/-! What a text means hangs on its own words alone: rules. -/
section CGA
variable {w w' : Nat → Int} {i j : Nat}
theorem dp_cg : ∀ l, (∀ k, i ≤ k → k < i + l → w k = w' k) → dp w i l = dp w' i l
  | 0, _ => rfl
  | l + 1, h => by rw [dp_s, dp_s, dp_cg l (fun k a b => h k a (by omega)), h (i + l) (by omega) (by omega)]
theorem lz_cg {k : Nat} (h : w k = w' k) (h1 : i < k → w (k - 1) = w' (k - 1)) : lz w i k = lz w' i k := by
  unfold lz
  rw [h]
  by_cases c : i < k
  · rw [h1 c]
  · have n1 : ∀ p : Prop, ¬ (i < k ∧ p) := fun p u => c u.1
    rw [if_neg (n1 _), if_neg (n1 _)]
theorem ll_cg {m : Nat} (h : ∀ k, i ≤ k → k < i + m + 1 → w k = w' k) : ll w i m = ll w' i m := by
  unfold ll
  rw [dp_cg m (fun k a b => h k a (by omega)), lz_cg (h (i + m) (by omega) (by omega)) (fun u => h _ (by omega) (by omega))]
theorem bh_cg : ∀ l, (∀ k, i ≤ k → k < i + l → w k = w' k) → bh w i l = bh w' i l
  | 0, _ => rfl
  | l + 1, h => by rw [bh_s, bh_s, bh_cg l (fun k a b => h k a (by omega)), ll_cg (fun k a b => h k a (by omega))]
theorem lo_cg (hij : i < j) (h : ∀ k, i ≤ k → k < j → w k = w' k) : lo w i j = lo w' i j := by
  unfold lo
  rw [bh_cg (j - i) (fun k a b => h k a (by omega)), h i (Nat.le_refl _) hij]
theorem Ex_cg : ∀ (n c i j : Nat), (∀ k, i ≤ k → k < j → w k = w' k) → Ex w n c i j → Ex w' n c i j := by
  intro n
  induction n with
  | zero => intro c i j _ h; exact h.elim
  | succ n ih =>
    intro c i j hk h
    have lt : ∀ {c i j : Nat}, Ex w n c i j → i < j := fun {c i j} u => (Eo.pr ⟨n, u⟩).1
    have hij : i < j := (Eo.pr ⟨n + 1, h⟩).1
    have two : ∀ {P : Int → Prop} {a b : Nat}, (∃ m, P (w m) ∧ Ex w n a i m ∧ Ex w n b (m + 1) j) → ∃ m, P (w' m) ∧ Ex w' n a i m ∧ Ex w' n b (m + 1) j := fun {P a b} u => by
      obtain ⟨m, u1, u2, u3⟩ := u
      have l2 := lt u2
      have l3 := lt u3
      exact ⟨m, by rw [← hk m (by omega) (by omega)]; exact u1, ih a i m (fun k k1 k2 => hk k k1 (by omega)) u2, ih b (m + 1) j (fun k k1 k2 => hk k (by omega) k2) u3⟩
    rw [Ex] at h ⊢
    by_cases c0 : c = 0
    · rw [if_pos c0] at h ⊢
      have wi := hk i (Nat.le_refl _) hij
      have wj := hk (j - 1) (by omega) (by omega)
      rcases h with h | h | h | h
      · rw [wi] at h
        exact Or.inl h
      · rw [wi] at h
        exact Or.inr (Or.inl ⟨h.1, ih 0 _ _ (fun k k1 k2 => hk k (by omega) k2) h.2⟩)
      · have l := lt h.2.2
        rw [wi, wj] at h
        exact Or.inr (Or.inr (Or.inl ⟨h.1, h.2.1, ih 6 _ _ (fun k k1 k2 => hk k (by omega) (by omega)) h.2.2⟩))
      · have l := lt h.2.2.2
        rw [wi, wj, hk (i + 1) (by omega) (by omega)] at h
        exact Or.inr (Or.inr (Or.inr ⟨h.1, h.2.1, h.2.2.1, ih 7 _ _ (fun k k1 k2 => hk k (by omega) (by omega)) h.2.2.2⟩))
    rw [if_neg c0] at h ⊢
    by_cases c1 : c = 1
    · rw [if_pos c1] at h ⊢
      exact h.imp (ih 0 i j hk) (fun u => two (P := fun x => x = 26 ∨ x = 27 ∨ x = 28) u)
    rw [if_neg c1] at h ⊢
    by_cases c2 : c = 2
    · rw [if_pos c2] at h ⊢
      exact h.imp (ih 1 i j hk) (fun u => two (P := fun x => x = 24 ∨ x = 25) u)
    rw [if_neg c2] at h ⊢
    by_cases c3 : c = 3
    · rw [if_pos c3] at h ⊢
      rcases h with h | h | h
      · exact Or.inl (ih 2 i j hk h)
      · exact Or.inr (Or.inl (two (P := fun x => 18 ≤ x ∧ x ≤ 23) h))
      · rw [hk i (Nat.le_refl _) hij] at h
        exact Or.inr (Or.inr ⟨h.1, ih 3 _ _ (fun k k1 k2 => hk k (by omega) k2) h.2⟩)
    rw [if_neg c3] at h ⊢
    by_cases c4 : c = 4
    · rw [if_pos c4] at h ⊢
      exact h.imp (ih 3 i j hk) (fun u => two (P := fun x => x = 29) u)
    rw [if_neg c4] at h ⊢
    by_cases c5 : c = 5
    · rw [if_pos c5] at h ⊢
      exact h.imp (ih 4 i j hk) (fun u => two (P := fun x => x = 30) u)
    rw [if_neg c5] at h ⊢
    by_cases c6 : c = 6
    · rw [if_pos c6] at h ⊢
      rcases h with h | ⟨m, q, h1, h2, h3, h4, h5⟩
      · exact Or.inl (ih 5 i j hk h)
      · have l3 := lt h3
        have l4 := lt h4
        have l5 := lt h5
        exact Or.inr ⟨m, q, by rw [← hk m (by omega) (by omega)]; exact h1, by rw [← hk q (by omega) (by omega)]; exact h2, ih 5 i m (fun k k1 k2 => hk k k1 (by omega)) h3, ih 6 (m + 1) q (fun k k1 k2 => hk k (by omega) (by omega)) h4, ih 6 (q + 1) j (fun k k1 k2 => hk k (by omega) k2) h5⟩
    rw [if_neg c6] at h ⊢
    by_cases c7 : c = 7
    · rw [if_pos c7] at h ⊢
      exact h.imp (ih 6 i j hk) (fun u => two (P := fun x => x = 35) u)
    rw [if_neg c7] at h
    exact h.elim
theorem Eo.cg {c : Nat} (h : Eo w c i j) (hk : ∀ k, i ≤ k → k < j → w k = w' k) : Eo w' c i j := by
  obtain ⟨n, h⟩ := h
  exact ⟨n, Ex_cg n c i j hk h⟩
end CGA
section CGB
variable {w w' E E' pl pl' : Nat → Int} {cv cv' : Nat → vrs}
def rlC (w w' E E' pl pl' : Nat → Int) (cv cv' : Nat → vrs) (i j : Nat) : Prop := ∀ k, i ≤ k → k < j → w k = w' k ∧ pl k = pl' k ∧ (w k = 1 → E k = E' k) ∧ ((w k = 1 ∨ w k = 2 ∨ w k = 12 ∨ w k = 13) → cv k = cv' k)
theorem rlC.sub {i j a b : Nat} (h : rlC w w' E E' pl pl' cv cv' i j) (ha : i ≤ a) (hb : b ≤ j) : rlC w w' E E' pl pl' cv cv' a b := fun k k1 k2 => h k (by omega) (by omega)
theorem rlC.ww {i j : Nat} (h : rlC w w' E E' pl pl' cv cv' i j) : ∀ k, i ≤ k → k < j → w k = w' k := fun k k1 k2 => (h k k1 k2).1
theorem rl_cg : ∀ (n c i j : Nat), 2 * (j - i) + c ≤ n → Eoc w c i j → rlC w w' E E' pl pl' cv cv' i j → kdq w E c i j = kdq w' E' c i j ∧ fl w E pl c i j = fl w' E' pl' c i j ∧ ∀ x, vlq w cv pl c x i j = vlq w' cv' pl' c x i j := by
  refine Eo_ind (P := fun c i j => rlC w w' E E' pl pl' cv cv' i j → kdq w E c i j = kdq w' E' c i j ∧ fl w E pl c i j = fl w' E' pl' c i j ∧ ∀ x, vlq w cv pl c x i j = vlq w' cv' pl' c x i j) ?_ ?_ ?_ ?_ ?_ ?_ ?_ ?_
  · intro i m q j h1 h2 h3 h4 h5 h6 h7 h8 e1 e2 e3 i1 i2 i3 hc
    have cm := hc m h2 h3
    have l' : lo w' i j = (m : Int) := by rw [← lo_cg (by omega) hc.ww]; exact h1
    have m' : w' m = 32 := by rw [← cm.1]; exact h6
    have q' : w' q = 33 := by rw [← (hc q (by omega) h5).1]; exact h7
    have c' : clq w' m j = q := clq_eo (e2.cg (fun k k1 k2 => hc.ww k (by omega) (by omega))) q' h5
    obtain ⟨a1, a2, a3⟩ := i1 (hc.sub (Nat.le_refl _) (by omega))
    obtain ⟨b1, b2, b3⟩ := i2 (hc.sub (by omega) (by omega))
    obtain ⟨d1, d2, d3⟩ := i3 (hc.sub (by omega) (Nat.le_refl _))
    refine ⟨?_, ?_, fun x => ?_⟩
    · rw [kd_ask h1 h2 h3 h6 h8, kd_ask l' h2 h3 m' c', d1]
    · rw [fl_ask h1 h2 h3 h6 h8, fl_ask l' h2 h3 m' c', a1, b1, d1, a2, b2, d2, cm.2.1]
    · rw [vl_ask h1 h2 h3 h6 h8, vl_ask l' h2 h3 m' c', a3 0, b3 0, d3 0]
  · intro i m j h1 h2 h3 h4 e1 e2 i1 i2 hc
    have cm := hc m h2 h3
    have l' : lo w' i j = (m : Int) := by rw [← lo_cg (by omega) hc.ww]; exact h1
    obtain ⟨a1, a2, a3⟩ := i1 (hc.sub (Nat.le_refl _) (by omega))
    obtain ⟨b1, b2, b3⟩ := i2 (hc.sub (by omega) (Nat.le_refl _))
    have n32 : w m ≠ 32 := by omega
    have n32' : w' m ≠ 32 := by rw [← cm.1]; exact n32
    refine ⟨?_, ?_, fun x => ?_⟩
    · rw [kd_bin h1 h2 h3 n32, kd_bin l' h2 h3 n32', cm.1]
    · rw [fl_bin h1 h2 h3 n32, fl_bin l' h2 h3 n32', a1, b1, a2, b2, cm.1, cm.2.1]
    · by_cases c1 : w m = 29
      · rw [vl_and h1 h2 h3 c1, vl_and l' h2 h3 (by rw [← cm.1]; exact c1), a3 0, b3 0]
      by_cases c2 : w m = 30
      · rw [vl_or h1 h2 h3 c2, vl_or l' h2 h3 (by rw [← cm.1]; exact c2), a3 0, b3 0]
      · rw [vl_bin h1 h2 h3 n32 c1 c2, vl_bin l' h2 h3 n32' (by rw [← cm.1]; exact c1) (by rw [← cm.1]; exact c2), a3 0, b3 0, cm.1, cm.2.1]
  · intro i j h1 h2 h3 h4 e1 i1 hc
    have l' : lo w' i j = -1 := by rw [← lo_cg h2 hc.ww]; exact h1
    have m' : w' i = 36 := by rw [← (hc i (Nat.le_refl _) h2).1]; exact h3
    obtain ⟨a1, a2, a3⟩ := i1 (hc.sub (by omega) (by omega))
    refine ⟨?_, ?_, fun x => ?_⟩
    · rw [kd_par h1 h2 h3, kd_par l' h2 m', a1]
    · rw [fl_par h1 h2 h3, fl_par l' h2 m', a2]
    · rw [vl_par h1 h2 h3, vl_par l' h2 m', a3 0]
  · intro i j h1 h2 h3 e1 i1 hc
    have ci := hc i (Nat.le_refl _) h2
    have l' : lo w' i j = -1 := by rw [← lo_cg h2 hc.ww]; exact h1
    obtain ⟨a1, a2, a3⟩ := i1 (hc.sub (by omega) (Nat.le_refl _))
    rcases h3 with h3 | h3
    · have m' : w' i = 25 := by rw [← ci.1]; exact h3
      refine ⟨?_, ?_, fun x => ?_⟩
      · rw [kd_num h1 h2 (Or.inl h3), kd_num l' h2 (Or.inl m')]
      · rw [fl_neg h1 h2 h3, fl_neg l' h2 m', a1, a2, ci.2.1]
      · rw [vl_neg h1 h2 h3, vl_neg l' h2 m', a3 0]
    · have m' : w' i = 31 := by rw [← ci.1]; exact h3
      refine ⟨?_, ?_, fun x => ?_⟩
      · rw [kd_tru h1 h2 (Or.inl h3), kd_tru l' h2 (Or.inl m')]
      · rw [fl_not h1 h2 h3, fl_not l' h2 m', a1, a2, ci.2.1]
      · rw [vl_not h1 h2 h3, vl_not l' h2 m', a3 0]
  · intro i h1 h3 hc
    have ci := hc i (Nat.le_refl _) (by omega)
    have hij : i < i + 1 := by omega
    have l' : lo w' i (i + 1) = -1 := by rw [← lo_cg hij hc.ww]; exact h1
    have h3' : w' i = 1 ∨ w' i = 2 ∨ w' i = 12 ∨ w' i = 13 := by rw [← ci.1]; exact h3
    refine ⟨?_, ?_, fun x => ?_⟩
    · by_cases c1 : w i = 1
      · rw [kd_nam h1 hij c1, kd_nam l' hij (by rw [← ci.1]; exact c1), ci.2.2.1 c1]
      by_cases c2 : w i = 2
      · rw [kd_num h1 hij (Or.inr (Or.inl c2)), kd_num l' hij (Or.inr (Or.inl (by rw [← ci.1]; exact c2)))]
      · have c3 : w i = 12 ∨ w i = 13 := by omega
        rw [kd_tru h1 hij (Or.inr c3), kd_tru l' hij (Or.inr (by rw [← ci.1]; exact c3))]
    · rw [fl_leaf h1 hij h3, fl_leaf l' hij h3', ci.2.1, ← ci.1]
      by_cases c1 : w i = 1
      · rw [ci.2.2.1 c1]
      · rw [if_neg (fun u => c1 u.1), if_neg (fun u => c1 u.1)]
    · rw [vl_leaf h1 hij h3, vl_leaf l' hij h3']
      exact ci.2.2.2 h3
  · intro i j h1 h2 h3 h4 e1 i1 hc
    have ci := hc i (Nat.le_refl _) h2
    have l' : lo w' i j = -1 := by rw [← lo_cg h2 hc.ww]; exact h1
    have h3' : w' i = 14 ∨ w' i = 15 := by rw [← ci.1]; exact h3
    obtain ⟨a1, a2, a3⟩ := i1 (hc.sub (by omega) (by omega))
    refine ⟨?_, ?_, fun x => ?_⟩
    · rw [kd_num h1 h2 (Or.inr (Or.inr h3)), kd_num l' h2 (Or.inr (Or.inr h3'))]
    · rw [fl_lst h1 h2 h3, fl_lst l' h2 h3', a1, a2, ci.2.1]
    · rw [vl_lst h1 h2 h3, vl_lst l' h2 h3', ← ci.1]
      exact a3 (w i)
  · intro i j h1 h2 e1 i1 hc
    obtain ⟨a1, a2, a3⟩ := i1 hc
    have c' : lcq w' i (j - i) = 0 := lcq_eo (e1.cg hc.ww) (Nat.le_refl _)
    refine ⟨?_, ?_, fun x => ?_⟩
    · rw [kd_l1 h1 h2, kd_l1 h1 c', a1]
    · rw [fl_l1 h1 h2, fl_l1 h1 c', a2]
    · rw [vl_l1 h1 h2, vl_l1 h1 c', a3 0]
  · intro i m j h1 h2 h3 h4 h5 e1 e2 i1 i2 hc
    obtain ⟨a1, a2, a3⟩ := i1 (hc.sub (Nat.le_refl _) (by omega))
    obtain ⟨b1, b2, b3⟩ := i2 (hc.sub (by omega) (Nat.le_refl _))
    have c' : lcq w' i (j - i) = m - i + 1 := lcq_7 (e1.cg (fun k k1 k2 => hc.ww k k1 (by omega))) (by rw [← (hc m h2 h3).1]; exact h5) (e2.cg (fun k k1 k2 => hc.ww k (by omega) k2))
    refine ⟨?_, ?_, fun x => ?_⟩
    · rw [kd_ln h1 h4 h2, kd_ln h1 c' h2, a1, b1]
    · rw [fl_ln h1 h4 h2, fl_ln h1 c' h2, a2, b2]
    · rw [vl_ln h1 h4 h2, vl_ln h1 c' h2, a3 x, b3 0]
theorem rl_cg0 {i j : Nat} (eo : Eo w 6 i j) (hc : rlC w w' E E' pl pl' cv cv' i j) : kdq w E 0 i j = kdq w' E' 0 i j ∧ fl w E pl 0 i j = fl w' E' pl' 0 i j ∧ vlq w cv pl 0 0 i j = vlq w' cv' pl' 0 0 i j := by
  obtain ⟨a, b, c⟩ := rl_cg (w' := w') (E' := E') (pl' := pl') (cv' := cv') _ 0 i j (Nat.le_refl _) (Or.inl ⟨rfl, eo⟩) hc
  exact ⟨a, b, c 0⟩
end CGB
end
