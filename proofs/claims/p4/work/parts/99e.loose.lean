/-! The reference: where an expression is split. -/
section LO
variable {w : Nat → Int}
theorem Pr.pre2 {i j : Nat} (h : Pr w 0 (i + 1) j) (hw : w i = 14 ∨ w i = 15) : Pr w 0 i j := by
  obtain ⟨p1, p2, p3, p4, p5, p6, p7⟩ := h
  have ej : j - i = 1 + (j - (i + 1)) := by omega
  refine ⟨by omega, by unfold fwd; omega, fun z => by omega, p4, ?_, fun z => ?_, ?_⟩
  · rw [ej]
    exact p5.cons (by unfold rwd; omega) (by omega) (by omega) (by omega) (by omega)
  · rw [ej]
    exact Nq.cons (p6 (by omega)) (by omega) (by omega) (by omega)
  · rw [ej]
    exact Lb.cons p7 (by omega) (by omega) (by omega) (by unfold fwd; omega) (by unfold opd; omega) p2
theorem Pr.ask {i m q j : Nat} (h1 : Pr w 5 i m) (h2 : Pr w 6 (m + 1) q) (h3 : Pr w 6 (q + 1) j) (hm : w m = 32) (hq : w q = 33) : Pr w 6 i j := by
  obtain ⟨p1, p2, p3, p4, p5, p6, p7⟩ := h1
  obtain ⟨q1, q2, q3, q4, q5, q6, q7⟩ := h2
  obtain ⟨r1, r2, r3, r4, r5, r6, r7⟩ := h3
  have em : i + (m - i) = m := by omega
  have eq : m + 1 + (q - (m + 1)) = q := by omega
  refine ⟨by omega, p2, fun z => by omega, r4, ?_, fun z => by omega, fun m hm q => lz_le⟩
  rw [show j - i = (m - i) + 1 + (q - (m + 1)) + 1 + (j - (q + 1)) by omega]
  exact p5.ask (by rw [em]; exact q5) (by rw [em, eq]; exact r5) (by rw [em]; exact hm) (by rw [em, eq]; exact hq)
theorem ex_pr : ∀ {n c i j : Nat}, Ex w n c i j → Pr w c i j := by
  intro n
  induction n with
  | zero => intro c i j h; exact h.elim
  | succ n ih =>
    intro c i j h
    rw [Ex] at h
    by_cases c0 : c = 0
    · rw [if_pos c0] at h
      subst c0
      rcases h with ⟨h1, h2⟩ | ⟨h1, h2⟩ | ⟨h1, h2, h3⟩ | ⟨h1, h2, h3, h4⟩
      · subst h1
        have hb : Bl w i 1 := by
          have d1 : dp w i 1 = 0 := by rw [dp_s]; show (0 : Int) + _ = 0; rw [show i + 0 = i by omega, if_neg (by omega), if_neg (by omega)]; omega
          have a1 : aq w i 1 = 0 := by rw [aq_s, if_neg (by show ¬ (0 : Int) < 0; omega)]; show (0 : Int) + _ = 0; rw [show i + 0 = i by omega, if_neg (by omega), if_neg (by omega)]; omega
          refine ⟨d1, a1, fun m hm => ?_, fun m hm => ?_⟩
          · by_cases z : m = 0
            · subst z; exact ⟨Int.le_refl _, Int.le_refl _⟩
            · rw [show m = 1 by omega, d1, a1]; omega
          · rw [show m = 0 by omega, show i + 0 = i by omega]
            exact ⟨by unfold rwd; omega, fun _ _ => by omega⟩
        refine ⟨by omega, by unfold fwd; omega, fun _ => by omega, by rw [show i + 1 - 1 = i by omega]; unfold opd; omega, by rw [show i + 1 - i = 1 by omega]; exact hb, fun _ m hm q => ?_, fun m hm q => ?_⟩
        · rw [show m = 0 by omega, show i + 0 = i by omega]; omega
        · rw [show m = 0 by omega, show i + 0 = i by omega, lz_f (by unfold fwd; omega) (fun q => by omega)]; omega
      · exact (ih h2).pre (by omega) (Or.inl h1) (fun q => by omega) (fun _ => by omega)
      · have p := ih h3
        have hj : j = (j - 1) + 1 := by have := p.1; omega
        rw [hj]
        exact p.par h1 h2
      · have p := ih h4
        have hj : j = (j - 1) + 1 := by have := p.1; omega
        have k : Pr w 0 (i + 1) j := by
          rw [hj]
          exact Pr.par (c := 7) (by rw [show i + 1 + 1 = i + 2 by omega]; exact p) h2 h3
        exact k.pre2 h1
    rw [if_neg c0] at h
    by_cases c1 : c = 1
    · rw [if_pos c1] at h
      subst c1
      rcases h with h | ⟨m, h1, h2, h3⟩
      · exact (ih h).wk (by omega) (fun _ => by omega)
      · exact (ih h2).join (ih h3) (by omega) (by omega) (fun _ => by omega) (fun _ => by omega) (by omega) (by rw [lz_26 (by omega)]; omega)
    rw [if_neg c1] at h
    by_cases c2 : c = 2
    · rw [if_pos c2] at h
      subst c2
      rcases h with h | ⟨m, h1, h2, h3⟩
      · exact (ih h).wk (by omega) (fun _ => by omega)
      · exact (ih h2).join (ih h3) (by omega) (by omega) (fun _ => by omega) (fun _ => by omega) (by omega) (by rw [lz_24 h1 (ih h2).1 (ih h2).2.2.2.1]; omega)
    rw [if_neg c2] at h
    by_cases c3 : c = 3
    · rw [if_pos c3] at h
      subst c3
      rcases h with h | ⟨m, h1, h2, h3⟩ | ⟨h1, h2⟩
      · exact (ih h).wk (by omega) (fun _ => by omega)
      · exact (ih h2).join (ih h3) (by omega) (by omega) (fun _ => by omega) (fun _ => by omega) (by omega) (by rw [lz_18 h1]; omega)
      · exact (ih h2).pre (by omega) (Or.inr h1) (fun _ => by omega) (fun _ => by omega)
    rw [if_neg c3] at h
    by_cases c4 : c = 4
    · rw [if_pos c4] at h
      subst c4
      rcases h with h | ⟨m, h1, h2, h3⟩
      · exact (ih h).wk (by omega) (fun _ => by omega)
      · exact (ih h2).join (ih h3) (by omega) (by omega) (fun _ => by omega) (fun _ => by omega) (by omega) (by rw [lz_29 h1]; omega)
    rw [if_neg c4] at h
    by_cases c5 : c = 5
    · rw [if_pos c5] at h
      subst c5
      rcases h with h | ⟨m, h1, h2, h3⟩
      · exact (ih h).wk (by omega) (fun _ => by omega)
      · exact (ih h2).join (ih h3) (by omega) (by omega) (fun _ => by omega) (fun _ => by omega) (by omega) (by rw [lz_30 h1]; omega)
    rw [if_neg c5] at h
    by_cases c6 : c = 6
    · rw [if_pos c6] at h
      subst c6
      rcases h with h | ⟨m, q, h1, h2, h3, h4, h5⟩
      · exact (ih h).wk (by omega) (fun _ => by omega)
      · exact (ih h3).ask (ih h4) (ih h5) h1 h2
    rw [if_neg c6] at h
    by_cases c7 : c = 7
    · rw [if_pos c7] at h
      subst c7
      rcases h with h | ⟨m, h1, h2, h3⟩
      · exact (ih h).wk (by omega) (fun _ => by omega)
      · exact (ih h2).join (ih h3) (by omega) (by omega) (fun _ => by omega) (fun _ => by omega) (by omega) (by rw [lz_35 h1]; omega)
    · rw [if_neg c7] at h
      exact h.elim
theorem Eo.pr {c i j : Nat} (h : Eo w c i j) : Pr w c i j := by
  obtain ⟨n, h⟩ := h
  exact ex_pr h
/-- how loose the m-th word is, where nothing is open -/
def ll (w : Nat → Int) (i m : Nat) : Nat := if dp w i m = 0 then lz w i (i + m) else 0
/-- the loosest of the first m words, and how loose -/
def bh (w : Nat → Int) (i : Nat) : Nat → Int × Nat
  | 0 => (-1, 0)
  | m + 1 => if (bh w i m).2 < ll w i m ∨ (0 < ll w i m ∧ ll w i m = (bh w i m).2 ∧ ll w i m < 6) then (((i + m : Nat) : Int), ll w i m) else bh w i m
theorem bh_s {i m : Nat} : bh w i (m + 1) = if (bh w i m).2 < ll w i m ∨ (0 < ll w i m ∧ ll w i m = (bh w i m).2 ∧ ll w i m < 6) then (((i + m : Nat) : Int), ll w i m) else bh w i m := rfl
theorem bh_le {i c : Nat} : ∀ m, (∀ k, k < m → ll w i k ≤ c) → (bh w i m).2 ≤ c
  | 0, _ => Nat.zero_le _
  | m + 1, h => by
    have a := bh_le m (fun k hk => h k (by omega))
    have b := h m (by omega)
    rw [bh_s]
    split
    · exact b
    · exact a
theorem bh_none {i : Nat} : ∀ m, (∀ k, k < m → ll w i k = 0) → bh w i m = (-1, 0)
  | 0, _ => rfl
  | m + 1, h => by
    have a := bh_none m (fun k hk => h k (by omega))
    have b := h m (by omega)
    rw [bh_s, b, a, if_neg (by show ¬ ((0 : Nat) < 0 ∨ _); omega)]
theorem bh_max {i a c : Nat} (hc : 0 < c) (h1 : ∀ k, k < a → ll w i k ≤ c) (h2 : ll w i a = c) : ∀ n, (∀ k, a < k → k < a + 1 + n → ll w i k ≤ c ∧ (c < 6 → ll w i k < c)) → (c = 6 → ∀ k, k < a → ll w i k ≤ 5) → bh w i (a + 1 + n) = (((i + a : Nat) : Int), c)
  | 0, _, h6 => by
    show bh w i (a + 1) = _
    have k := bh_le a h1
    rw [bh_s, h2]
    by_cases z : c = 6
    · have k5 := bh_le a (h6 z)
      rw [if_pos (Or.inl (by omega))]
    · rw [if_pos (by
        have := lz_le (w := w) (i := i) (k := i + a)
        have h6' : c ≤ 6 := by
          have : ll w i a ≤ 6 := by unfold ll; split <;> omega
          omega
        omega)]
  | n + 1, h, h6 => by
    have ihn := bh_max hc h1 h2 n (fun k k1 k2 => h k k1 (by omega)) h6
    have b := h (a + 1 + n) (by omega) (by omega)
    show bh w i (a + 1 + n + 1) = _
    rw [bh_s, ihn, if_neg]
    show ¬ (c < ll w i (a + 1 + n) ∨ (0 < ll w i (a + 1 + n) ∧ ll w i (a + 1 + n) = c ∧ ll w i (a + 1 + n) < 6))
    intro q
    have := b.1
    rcases q with q | ⟨q1, q2, q3⟩
    · omega
    · have := b.2 (by omega); omega
/-- where the reference splits -/
def lo (w : Nat → Int) (i j : Nat) : Int := if w i = 31 ∧ (bh w i (j - i)).2 < 4 then -1 else (bh w i (j - i)).1
theorem Lb.right {i a b c2 : Nat} (b1 : Bl w i a) (h2 : Lb w c2 (i + a + 1) b) (h36 : w (i + a) ≠ 36) (h37 : w (i + a) ≠ 37) (hno : ¬ opd (w (i + a))) (hf : fwd (w (i + a + 1))) : ∀ m, a < m → m < a + 1 + b → ll w i m ≤ c2 := by
  have d1 : dp w i (a + 1) = 0 := by rw [dp_s, if_neg h36, if_neg h37, b1.1]; omega
  have e : i + (a + 1) = i + a + 1 := by omega
  intro m h1 h3
  unfold ll
  by_cases q : dp w i m = 0
  · rw [if_pos q]
    by_cases x : m = a + 1
    · rw [x, e, lz_f hf (fun _ => by rw [show i + a + 1 - 1 = i + a by omega]; exact hno)]; omega
    · rw [show m = (a + 1) + (m - (a + 1)) by omega, dp_app, d1, e] at q
      have k := h2 (m - (a + 1)) (by omega) (by omega)
      rw [show i + a + 1 + (m - (a + 1)) = i + m by omega] at k
      rw [lz_c (i' := i + a + 1) (by omega) (by omega)]
      exact k
  · rw [if_neg q]; omega
theorem lb_ll {c i l m : Nat} (h : Lb w c i l) (hm : m < l) : ll w i m ≤ c := by
  unfold ll
  split
  · exact h m hm (by assumption)
  · omega
end LO
