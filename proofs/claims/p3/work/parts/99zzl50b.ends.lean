/-! end, compared: the class's helper and the reference to the last digit. -/
section LEN
variable {G : mG} {d t a o b N n x Ps Pc B0 B1 : Nat} {Nc Nr Nn l Nt9 : Int} {xs : Int → Int} {M M' M1 M2 : mM} {C : Nat → Prop}
theorem r_MM_end3 (hl : i32 l) (h : RI Nt9 M a) : Ci G y_MM_end d [vr a, vi l] M (fun r M' => ∃ n1, rQ n1 M a r M' ∧ ((0 ≤ l ∧ l ≤ 20 ∧ 20 ≤ Nt9 ∧ n1 = Nt9 - 20 + l ∧ r = n1 ∧ mI M' a 0 = 0) ∨ (¬ (0 ≤ l ∧ l ≤ 20 ∧ 20 ≤ Nt9) ∧ n1 = Nt9 ∧ mI M' a 0 = 1))) := by
  have bN := h.2.2.1.1
  refine (s_MM_end hl h.1 h.2.1 (by rw [bN.1]; exact bN.2)).mono (fun r M1 q => ?_)
  have b0 : 0 ≤ ln M (mR M a 1) := (h.2.1.nu h.2.1.tape.1).2.2.2.1.1
  obtain ⟨m, hf, hh⟩ := id q
  have e : i32 r ∧ ∃ n1, (ln M1 (mR M a 1) = n1 ∧ n1 ≤ 16384) ∧ ((0 ≤ l ∧ l ≤ 20 ∧ 20 ≤ Nt9 ∧ n1 = Nt9 - 20 + l ∧ r = n1 ∧ mI M1 a 0 = 0) ∨ (¬ (0 ≤ l ∧ l ≤ 20 ∧ 20 ≤ Nt9) ∧ n1 = Nt9 ∧ mI M1 a 0 = 1)) := by
    obtain ⟨c1, c2⟩ := bN
    rcases hh with ⟨y1, y2, y3, y4, y5, y6, -⟩ | ⟨y1, y2, y3, y4⟩
    · exact ⟨i32s (by omega) (by omega), r, ⟨y6, by omega⟩, Or.inl ⟨y1, y2, by omega, by omega, rfl, y4⟩⟩
    · have y5 := y4.1
      exact ⟨i32s (by omega) (by omega), Nt9, ⟨by omega, c2⟩, Or.inr ⟨fun z => y1 ⟨z.1, z.2.1, by omega⟩, rfl, y2⟩⟩
  obtain ⟨ir, n1, hl', hd⟩ := e
  obtain ⟨r1, F1⟩ := h.mv m (fun q z => z) (fun x z => z) hf hl'
  exact ⟨n1, ⟨ir, r1, F1⟩, hd⟩
theorem hp_end3 (hT : TH G) (il : i32 l) (h : IV0 C Ps Pc o a b N xs t B0 B1 n Nc Nr M) : CiW G y_La_end hs_end 39 [vr t, vi l, vr o] M (fun x M1 => cSt o C n t Ps Pc (if 0 ≤ l ∧ l ≤ 20 ∧ 20 ≤ Nc then Nc - 20 + l else Nc) M M1 ∧ ((x = 0 ∧ (0 ≤ l ∧ l ≤ 20 ∧ 20 ≤ Nc) ∧ mL M1 o 0 = Nc - 20 + l) ∨ (x = 1 ∧ ¬ (0 ≤ l ∧ l ≤ 20 ∧ 20 ≤ Nc)))) := by
  have tp := h.2.2.1
  by_cases c : 0 ≤ l ∧ l ≤ 20 ∧ 20 ≤ mI M t 1
  · refine (n_La_end (d := 38) (l1 := 0) (l2 := 0) (o := o) h.kt (c_CA_end (d := 38) il h.1 c) (fun r M1 q => ⟨q.1, h.oq q.2.1⟩)).mono (fun x M2 q => ?_)
    obtain ⟨ex, r, M1, q, rfl⟩ := q
    rw [tp] at c
    rw [if_pos c]
    have er : r = Nc - 20 + l := by rw [q.2.2.1, tp]; omega
    exact ⟨q.2.1.out (by rw [q.2.2.2, er]) h.no h.oz (i64_32 q.1), Or.inl ⟨ex, c, by rw [mL_UL, if_pos ⟨rfl, rfl⟩]; exact er⟩⟩
  · have c' := c
    rw [tp] at c'
    rw [if_neg c']
    exact ⟨_, _, x_La_end (d := 38) (l1 := 0) (l2 := 0) h.kt (t_CA_end hT (by decide) h.1.ok il h.kt c), 1, rfl, h.1.thr tp, Or.inr ⟨rfl, c'⟩⟩
end LEN
