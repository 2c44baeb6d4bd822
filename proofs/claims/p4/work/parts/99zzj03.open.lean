/-! The class's reader: what its open operations and its operands stand for. -/
theorem fst9_a (a b c : Int × Int) : fst9 (fst9 a b) c = fst9 a (fst9 b c) := by
  unfold fst9
  by_cases h : a.1 = 0
  · rw [if_pos h, if_pos h]
  · rw [if_neg h, if_neg h, if_neg h]
theorem fst9_0 (b : Int × Int) : fst9 (0, 0) b = b := if_pos rfl
section OQ
variable {w E pl O P O' P' : Nat → Int} {ec : Nat → Int × Int} {i j m s e : Nat} {x y : Int}
theorem Eo.le {c c' : Nat} (h : Eo w c i j) (hc : c ≤ c') (h6 : c' ≤ 6) : Eo w c' i j := by
  have : ∀ n c, c + n ≤ 6 → Eo w c i j → Eo w (c + n) i j := by
    intro n
    induction n with
    | zero => intro c _ q; exact q
    | succ n ih => intro c q1 q2; exact Eo.one (c := c + n) (by omega) (ih c (by omega) q2)
  have r := this (c' - c) c (by omega) h
  rw [show c + (c' - c) = c' by omega] at r
  exact r
theorem lo_ask (p5 : Pr w 5 i m) (h1 : w m = 32) (hj : m < j) : lo w i j = (m : Int) := by
  have em : i + (m - i) = m := by have := p5.1; omega
  have hb : bh w i (j - i) = ((m : Int), 6) := by
    have hm1 := p5.1
    rw [show j - i = (m - i) + 1 + (j - (m + 1)) by omega]
    have hm0 : ll w i (m - i) = 6 := by
      unfold ll
      rw [if_pos p5.2.2.2.2.1.1, em, lz_32 h1]
    have k := bh_max (w := w) (i := i) (a := m - i) (c := 6) (by omega) (fun k hk => by have := lb_ll p5.2.2.2.2.2.2 hk; omega) hm0 (j - (m + 1)) (fun k k1 k2 => ⟨by unfold ll; have := lz_le (w := w) (i := i) (k := i + k); split <;> omega, fun z => by omega⟩) (fun z k hk => by have := lb_ll p5.2.2.2.2.2.2 hk; omega)
    rw [em] at k
    exact k
  unfold lo
  rw [hb, if_neg]
  show ¬ (w i = 31 ∧ 6 < 4)
  omega
/-- how strong an operand may stand before an operation -/
def lsq (o : Int) : Nat := if 27 ≤ o ∧ o ≤ 29 then 1 else if 19 ≤ o ∧ o ≤ 26 then 2 else if o = 30 then 4 else 5
/-- two operands joined -/
theorem lo_bin {o : Int} {b a : Nat} (h1 : Eo w (lsq o) b m) (h2 : Eo w (rsq o) (m + 1) a) (hw : w m = o - 1) (ho : 19 ≤ o ∧ o ≤ 31) : lo w b a = (m : Int) ∧ Eo w (cst o) b a := by
  have p1 := h1.pr
  have p2 := h2.pr
  by_cases c1 : 27 ≤ o ∧ o ≤ 29
  · have e1 : lsq o = 1 := if_pos c1
    have e2 : rsq o = 0 := if_pos (Or.inr c1)
    have e3 : cst o = 1 := if_pos c1
    rw [e1] at h1 p1
    rw [e2] at h2 p2
    rw [e3]
    exact ⟨lo_op (c := 1) p1 p2 (by omega) (by omega) (by omega) (fun _ => by omega) (fun _ => by omega) (by omega) (lz_26 (by omega)) (fun q => absurd q (p1.2.2.1 (by omega))), eo1 (by omega) h1 h2⟩
  · by_cases c2 : o = 25 ∨ o = 26
    · have e1 : lsq o = 2 := by unfold lsq; rw [if_neg c1, if_pos (by omega)]
      have e2 : rsq o = 1 := by unfold rsq; rw [if_neg (by omega), if_pos c2]
      have e3 : cst o = 2 := by unfold cst; rw [if_neg c1, if_pos c2]
      rw [e1] at h1 p1
      rw [e2] at h2 p2
      rw [e3]
      exact ⟨lo_op (c := 2) p1 p2 (by omega) (by omega) (by omega) (fun _ => by omega) (fun _ => by omega) (by omega) (lz_24 (by omega) p1.1 p1.2.2.2.1) (fun q => absurd q (p1.2.2.1 (by omega))), eo2 (by omega) h1 h2⟩
    · by_cases c3 : 19 ≤ o ∧ o ≤ 24
      · have e1 : lsq o = 2 := by unfold lsq; rw [if_neg c1, if_pos (by omega)]
        have e2 : rsq o = 2 := by unfold rsq; rw [if_neg (by omega), if_neg c2, if_pos c3]
        have e3 : cst o = 3 := by unfold cst; rw [if_neg c1, if_neg c2, if_pos (Or.inl c3)]
        rw [e1] at h1 p1
        rw [e2] at h2 p2
        rw [e3]
        exact ⟨lo_op (c := 3) p1 p2 (by omega) (by omega) (by omega) (fun _ => by omega) (fun _ => by omega) (by omega) (lz_18 (by omega)) (fun q => absurd q (p1.2.2.1 (by omega))), eo3 (by omega) h1 h2⟩
      · by_cases c4 : o = 30
        · subst c4
          exact ⟨lo_op (c := 4) (c1 := 4) (c2 := 3) p1 p2 (by omega) (by omega) (by omega) (fun _ => by omega) (fun _ => by omega) (by omega) (lz_29 (by omega)) (fun _ => by omega), eo4 (by omega) h1 h2⟩
        · have c5 : o = 31 := by omega
          subst c5
          exact ⟨lo_op (c := 5) (c1 := 5) (c2 := 4) p1 p2 (by omega) (by omega) (by omega) (fun _ => by omega) (fun _ => by omega) (by omega) (lz_30 (by omega)) (fun _ => by omega), eo5 (by omega) h1 h2⟩
theorem clq_eo {q : Nat} (h2 : Eo w 6 (m + 1) q) (hq : w q = 33) (hj : q < j) : clq w m j = q := clq_at (Nat.le_of_lt h2.pr.1) hj h2.pr.2.2.2.2.1 hq
theorem lcq_eo {c : Nat} (h : Eo w c i j) (hc : c ≤ 6) : lcq w i (j - i) = 0 := by
  obtain ⟨n, h⟩ := h
  exact lcq_0 _ (ex_nc hc h)
theorem lcq_7 (h1 : Eo w 7 i m) (hw : w m = 35) (h2 : Eo w 6 (m + 1) j) : lcq w i (j - i) = m - i + 1 := by
  have p1 := h1.pr
  have p2 := h2.pr
  have hi := p1.1
  have hj := p2.1
  obtain ⟨n, h2⟩ := h2
  have nx := ex_nc (by omega) h2
  have d1 : dp w i (m - i) = 0 := p1.2.2.2.2.1.1
  have em : i + (m - i) = m := by omega
  have d2 : dp w i (m - i + 1) = 0 := by rw [dp_s, em, if_neg (by omega), if_neg (by omega), d1]; omega
  rw [show j - i = (m - i) + 1 + (j - (m + 1)) by omega]
  refine lcq_at d1 (by rw [em]; exact hw) _ (fun t t1 t2 t3 => ?_)
  have e : t = (m - i + 1) + (t - (m - i + 1)) := by omega
  rw [e, dp_app, d2, show i + (m - i + 1) = m + 1 by omega] at t3
  have := nx (t - (m - i + 1)) (by omega) (by omega)
  rw [show m + 1 + (t - (m - i + 1)) = i + t by omega] at this
  exact this
/-! orders: they take room, and ask nothing of what lies elsewhere -/
theorem Cd_lt : ∀ (n c i j : Nat), 2 * (j - i) + c ≤ n → ∀ {x y : Int} {s e : Nat}, Cd w ec pl O P c x y i j s e → s < e := by
  intro n
  induction n with
  | zero =>
    intro c i j hn x y s e h
    rw [Cd] at h
    rw [dif_neg (by omega)] at h
    exact h.elim
  | succ n ih =>
    intro c i j hn x y s e h
    have a1 := lcq_le (w := w) (i := i) (j - i)
    have a2 := clq_b (w := w) (m := loq w i j) (j := j)
    rw [Cd] at h
    by_cases hij : i < j
    · rw [dif_pos hij] at h
      by_cases hc : c = 1
      · rw [dif_pos hc] at h
        by_cases hp : lcq w i (j - i) = 0
        · rw [dif_pos hp] at h
          exact ih _ _ _ (by omega) h
        · rw [dif_neg hp] at h
          obtain ⟨a, b, h1, h2, h3, -⟩ := h
          have := ih _ _ _ (by omega) h1
          have := ih _ _ _ (by omega) h2
          omega
      · rw [dif_neg hc] at h
        by_cases hm : lin w i j
        · rw [dif_pos hm] at h
          have a3 := hm.2
          split at h
          · obtain ⟨a, b, h1, -, -, h2, -, -, h3⟩ := h
            have := ih _ _ _ (by omega) h1
            have := ih _ _ _ (by omega) h2
            have := ih _ _ _ (by omega) h3
            omega
          · split at h
            · obtain ⟨a, h1, -, -, h2⟩ := h
              have := ih _ _ _ (by omega) h1
              have := ih _ _ _ (by omega) h2
              omega
            · obtain ⟨a, b, h1, h2, h3, -⟩ := h
              have := ih _ _ _ (by omega) h1
              have := ih _ _ _ (by omega) h2
              omega
        · rw [dif_neg hm] at h
          split at h
          · exact ih _ _ _ (by omega) h
          · split at h
            · obtain ⟨b, h1, h2, -⟩ := h
              have := ih _ _ _ (by omega) h1
              omega
            · split at h
              · exact ih _ _ _ (by omega) h
              · omega
    · rw [dif_neg hij] at h
      exact h.elim
theorem Cd.lt {c i j : Nat} (h : Cd w ec pl O P c x y i j s e) : s < e := Cd_lt _ c i j (Nat.le_refl _) h
theorem Cd_cg : ∀ (n c i j : Nat), 2 * (j - i) + c ≤ n → ∀ {x y : Int} {s e : Nat}, Cd w ec pl O P c x y i j s e → (∀ t, s ≤ t → t < e → O' t = O t ∧ P' t = P t) → Cd w ec pl O' P' c x y i j s e := by
  intro n
  induction n with
  | zero =>
    intro c i j hn x y s e h _
    rw [Cd] at h
    rw [dif_neg (by omega)] at h
    exact h.elim
  | succ n ih =>
    intro c i j hn x y s e h hO
    have a1 := lcq_le (w := w) (i := i) (j - i)
    have a2 := clq_b (w := w) (m := loq w i j) (j := j)
    rw [Cd] at h ⊢
    by_cases hij : i < j
    · rw [dif_pos hij] at h ⊢
      by_cases hc : c = 1
      · rw [dif_pos hc] at h ⊢
        by_cases hp : lcq w i (j - i) = 0
        · rw [dif_pos hp] at h ⊢
          exact ih _ _ _ (by omega) h hO
        · rw [dif_neg hp] at h ⊢
          obtain ⟨a, b, h1, h2, h3, h4, h5⟩ := h
          have l1 := h1.lt
          have l2 := h2.lt
          have k := hO b (by omega) (by omega)
          exact ⟨a, b, ih _ _ _ (by omega) h1 (fun t u v => hO t u (by omega)), ih _ _ _ (by omega) h2 (fun t u v => hO t (by omega) (by omega)), h3, by rw [k.1]; exact h4, by rw [k.2]; exact h5⟩
      · rw [dif_neg hc] at h ⊢
        by_cases hm : lin w i j
        · rw [dif_pos hm] at h ⊢
          have a3 := hm.2
          by_cases c1 : w (loq w i j) = 32
          · rw [if_pos c1] at h ⊢
            obtain ⟨a, b, h1, h4, h5, h2, h6, h7, h3⟩ := h
            have l1 := h1.lt
            have l2 := h2.lt
            have l3 := h3.lt
            have k1 := hO a (by omega) (by omega)
            have k2 := hO b (by omega) (by omega)
            exact ⟨a, b, ih _ _ _ (by omega) h1 (fun t u v => hO t u (by omega)), by rw [k1.1]; exact h4, by rw [k1.2]; exact h5, ih _ _ _ (by omega) h2 (fun t u v => hO t (by omega) (by omega)), by rw [k2.1]; exact h6, by rw [k2.2]; exact h7, ih _ _ _ (by omega) h3 (fun t u v => hO t (by omega) v)⟩
          · rw [if_neg c1] at h ⊢
            by_cases c2 : w (loq w i j) = 29 ∨ w (loq w i j) = 30
            · rw [if_pos c2] at h ⊢
              obtain ⟨a, h1, h4, h5, h2⟩ := h
              have l1 := h1.lt
              have l2 := h2.lt
              have k1 := hO a (by omega) (by omega)
              exact ⟨a, ih _ _ _ (by omega) h1 (fun t u v => hO t u (by omega)), by rw [k1.1]; exact h4, by rw [k1.2]; exact h5, ih _ _ _ (by omega) h2 (fun t u v => hO t (by omega) v)⟩
            · rw [if_neg c2] at h ⊢
              obtain ⟨a, b, h1, h2, h3, h4, h5⟩ := h
              have l1 := h1.lt
              have l2 := h2.lt
              have k := hO b (by omega) (by omega)
              exact ⟨a, b, ih _ _ _ (by omega) h1 (fun t u v => hO t u (by omega)), ih _ _ _ (by omega) h2 (fun t u v => hO t (by omega) (by omega)), h3, by rw [k.1]; exact h4, by rw [k.2]; exact h5⟩
        · rw [dif_neg hm] at h ⊢
          by_cases c1 : w i = 36
          · rw [if_pos c1] at h ⊢
            exact ih _ _ _ (by omega) h hO
          · rw [if_neg c1] at h ⊢
            by_cases c2 : w i = 25 ∨ w i = 31
            · rw [if_pos c2] at h ⊢
              obtain ⟨b, h1, h2, h3, h4⟩ := h
              have l1 := h1.lt
              have k := hO b (by omega) (by omega)
              exact ⟨b, ih _ _ _ (by omega) h1 (fun t u v => hO t u (by omega)), h2, by rw [k.1]; exact h3, by rw [k.2]; exact h4⟩
            · rw [if_neg c2] at h ⊢
              by_cases c3 : w i = 14 ∨ w i = 15
              · rw [if_pos c3] at h ⊢
                exact ih _ _ _ (by omega) h hO
              · rw [if_neg c3] at h ⊢
                have k := hO s (by omega) (by omega)
                exact ⟨h.1, by rw [k.1]; exact h.2.1, by rw [k.2]; exact h.2.2⟩
    · rw [dif_neg hij] at h
      exact h.elim
theorem Cd.cg {c i j : Nat} (h : Cd w ec pl O P c x y i j s e) (hO : ∀ t, s ≤ t → t < e → O' t = O t ∧ P' t = P t) : Cd w ec pl O' P' c x y i j s e := Cd_cg _ c i j (Nat.le_refl _) h hO
end OQ
