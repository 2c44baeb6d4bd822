/-! The class's reader of texts, exactly: what the words of a const's rule push. -/
section TXJ
variable {W pl nq E : Nat → Int} {Cf : Nat → Int × Int} {sm : Nat → Nat → Prop} {M M' : mM} {q r T A B D n c p V F : Nat} {ns : Nat → Int} {nms : List nm9}
/-- the words' values, those beyond the text 0 -/
noncomputable def cvn (W nq : Nat → Int) (sm : Nat → Nat → Prop) (nms : List nm9) (n : Nat) (v : Nat) : vrs := if v < n then cv9 W nq sm nms v else (0, 0, 1)
theorem vgd_0 {k : Int} (_ : k = 0 ∨ k = 1) : vgd k (0, 0, 1) := vgd_01.2
theorem lf_ex (wt : WTq M T A B D n W pl nq sm) (ec : ECq M r p n W nq sm nms c 1 E Cf) (ct : CT M r p nms) (hl : nms.length = c) (h9 : ∀ i, i < c → mI M (r + 9) i = 0 ∨ mI M (r + 9) i = 1) : ∀ k, (W k = 1 ∨ W k = 2 ∨ W k = 12 ∨ W k = 13) → (W k = 1 → E k ≠ -1) → Lfo M p W E (cvn W nq sm nms n) Cf k := by
  intro k hk hne
  obtain ⟨big, ec⟩ := ec
  obtain ⟨eE, ec⟩ := ec ct hl
  unfold Lfo cvn
  by_cases kn : k < n
  · rw [if_pos kn]
    obtain ⟨c2, c12, c13, c1⟩ := ec k kn
    unfold cv9
    rcases hk with h | h | h | h
    · obtain ⟨i, e, z1, z2, z3, z4, -⟩ := c1 h (hne h)
      have e1 : e.2.1 = 1 := z3.resolve_left (by decide)
      obtain ⟨t1, t2, t3, t4, t5, -⟩ := ct.2 i e z1
      obtain ⟨g1, x, g2, g3, g4, g5⟩ := t5 e1
      have hi : i < c := by rw [← hl]; exact (List.getElem?_eq_some_iff.mp z1).1
      have Ev : E k = e.2.2.1 := by
        rw [eE]
        unfold E9
        rw [z2]
        show (if (if (1 : Int) = 0 then (0 : Int) else 1) = 1 ∧ e.2.1 ≠ 1 then (-1 : Int) else e.2.2.1) = e.2.2.1
        rw [if_neg (fun y => y.2 e1)]
      rw [if_pos h, z2]
      refine ⟨?_, Or.inr ⟨?_, x, ?_, g3, g4, g5⟩⟩
      · have k01 := h9 i hi
        rw [t4] at k01
        by_cases y : E k = 1
        · rw [if_pos (Or.inr (Or.inr ⟨h, y⟩))]
          rw [← Ev, y] at g1
          exact g1
        · rw [if_neg (by omega)]
          have : e.2.2.1 = 0 := by omega
          rw [this] at g1
          exact g1
      · rw [z4, t2, e1]; rfl
      · rw [z4]; exact g2
    · rw [if_neg (by omega), if_pos h, if_neg (by omega)]
      obtain ⟨-, b1, b2⟩ := wt.2.1 k kn h
      refine ⟨Or.inl ⟨rfl, ?_, ⟨by simp, by simp⟩, ?_, fun u => absurd u (by decide)⟩, Or.inl ⟨by rw [c2 h], by rw [c2 h]⟩⟩
      · show (nq k).natAbs ≤ 999999999
        omega
      · show Int.gcd (nq k) 1 = 1
        exact Int.gcd_one
    · rw [if_pos (show W k = 12 ∨ W k = 13 ∨ (W k = 1 ∧ E k = 1) from Or.inl h), if_neg (show ¬ W k = 1 by omega), if_neg (show ¬ W k = 2 by omega), if_pos h]
      exact ⟨vgd_01.1, Or.inl ⟨by rw [c12 h], by rw [c12 h]⟩⟩
    · rw [if_pos (show W k = 12 ∨ W k = 13 ∨ (W k = 1 ∧ E k = 1) from Or.inr (Or.inl h)), if_neg (show ¬ W k = 1 by omega), if_neg (show ¬ W k = 2 by omega), if_neg (show ¬ W k = 12 by omega)]
      exact ⟨vgd_01.2, Or.inl ⟨by rw [c13 h], by rw [c13 h]⟩⟩
  · rw [if_neg kn]
    have cb := big k (by omega)
    refine ⟨?_, Or.inl ⟨by rw [cb], by rw [cb]⟩⟩
    split
    · exact vgd_0 (Or.inr rfl)
    · exact vgd_0 (Or.inl rfl)
/-- consts' values stay: a new one is put behind them -/
theorem CT.tab (ct : CT M (q + 1) p nms) (tn : TN M (q + 1) A n V F ns c) (hl : nms.length = c) (h19 : mI M' (q + 1) 19 = mI M (q + 1) 19) (h6 : mI M' (q + 1 + 6) = mI M (q + 1 + 6)) (h7 : mI M' (q + 1 + 7) = mI M (q + 1 + 7)) (h8 : mI M' (q + 1 + 8) = mI M (q + 1 + 8)) (h9 : mI M' (q + 1 + 9) = mI M (q + 1 + 9)) (p6 : ∀ i, i < F → mI M' (p + 6) i = mI M (p + 6) i) (p7 : ∀ i, i < F → mI M' (p + 7) i = mI M (p + 7) i) : CT M' (q + 1) p nms := by
  refine ⟨by rw [h19]; exact ct.1, fun i e z => ?_⟩
  obtain ⟨t1, t2, t3, t4, t5, t6⟩ := ct.2 i e z
  rw [h6, h7, h8, h9]
  refine ⟨t1, t2, t3, t4, fun e1 => ?_, t6⟩
  obtain ⟨g1, x, g2, g3, g4, g5⟩ := t5 e1
  have hi : i < c := by rw [← hl]; exact (List.getElem?_eq_some_iff.mp z).1
  have xF : x < F := by
    obtain ⟨-, u, -⟩ := tn.2.2 i hi
    rw [t2, e1] at u
    rcases u with u | u
    · exact absurd u.1 (by decide)
    · have := u.2.2.1; omega
  exact ⟨g1, x, g2, g3, by rw [p7 x xF]; exact g4, by rw [p6 x xF, p7 x xF]; exact g5⟩
end TXJ
