section
/-! A rule's value depends on its words' values alone. -/
section VCG
variable {w E pl : Nat → Int} {cv cv' : Nat → vrs}
theorem vl_cg (hc : ∀ k, (w k = 1 ∨ w k = 2 ∨ w k = 12 ∨ w k = 13) → (w k = 1 → E k ≠ -1) → cv k = cv' k) : ∀ (n c i j : Nat), 2 * (j - i) + c ≤ n → Eoc w c i j → (fl w E pl c i j).1 = 0 → ∀ x, vlq w cv pl c x i j = vlq w cv' pl c x i j := by
  refine Eo_ind (P := fun c i j => (fl w E pl c i j).1 = 0 → ∀ x, vlq w cv pl c x i j = vlq w cv' pl c x i j) ?_ ?_ ?_ ?_ ?_ ?_ ?_ ?_
  · intro i m q j h1 h2 h3 h4 h5 h6 h7 h8 _ _ _ i1 i2 i3 hf x
    rw [fl_ask h1 h2 h3 h6 h8, fst9_1, fst9_1, fst9_1] at hf
    obtain ⟨⟨⟨f1, f2⟩, f3⟩, -⟩ := hf
    rw [vl_ask h1 h2 h3 h6 h8, vl_ask h1 h2 h3 h6 h8, i1 f1 0, i2 f2 0, i3 f3 0]
  · intro i m j h1 h2 h3 h4 _ _ i1 i2 hf x
    rw [fl_bin h1 h2 h3 (by omega), fst9_1, fst9_1] at hf
    obtain ⟨⟨f1, f2⟩, -⟩ := hf
    by_cases c1 : w m = 29
    · rw [vl_and h1 h2 h3 c1, vl_and h1 h2 h3 c1, i1 f1 0, i2 f2 0]
    by_cases c2 : w m = 30
    · rw [vl_or h1 h2 h3 c2, vl_or h1 h2 h3 c2, i1 f1 0, i2 f2 0]
    · rw [vl_bin h1 h2 h3 (by omega) c1 c2, vl_bin h1 h2 h3 (by omega) c1 c2, i1 f1 0, i2 f2 0]
  · intro i j h1 h2 h3 _ _ i1 hf x
    rw [fl_par h1 h2 h3] at hf
    rw [vl_par h1 h2 h3, vl_par h1 h2 h3]
    exact i1 hf 0
  · intro i j h1 h2 h3 _ i1 hf x
    rcases h3 with h3 | h3
    · rw [fl_neg h1 h2 h3, fst9_1] at hf
      rw [vl_neg h1 h2 h3, vl_neg h1 h2 h3, i1 hf.1 0]
    · rw [fl_not h1 h2 h3, fst9_1] at hf
      rw [vl_not h1 h2 h3, vl_not h1 h2 h3, i1 hf.1 0]
  · intro i h1 h3 hf x
    rw [fl_leaf h1 (by omega) h3] at hf
    have hne : w i = 1 → E i ≠ -1 := fun a b => by rw [if_pos ⟨a, b⟩] at hf; exact absurd hf (by simp)
    rw [vl_leaf h1 (by omega) h3, vl_leaf h1 (by omega) h3]
    exact hc i h3 hne
  · intro i j h1 h2 h3 _ _ i1 hf x
    rw [fl_lst h1 h2 h3, fst9_1] at hf
    rw [vl_lst h1 h2 h3, vl_lst h1 h2 h3]
    exact i1 hf.1 (w i)
  · intro i j h1 h2 _ i1 hf x
    rw [fl_l1 h1 h2] at hf
    rw [vl_l1 h1 h2, vl_l1 h1 h2]
    exact i1 hf 0
  · intro i m j h1 h2 h3 h4 h5 _ _ i1 i2 hf x
    rw [fl_ln h1 h4 h2, fst9_1] at hf
    rw [vl_ln h1 h4 h2, vl_ln h1 h4 h2, i1 hf.1 x, i2 hf.2 0]
theorem vl_cg0 {i j : Nat} (hc : ∀ k, (w k = 1 ∨ w k = 2 ∨ w k = 12 ∨ w k = 13) → (w k = 1 → E k ≠ -1) → cv k = cv' k) (he : Eo w 6 i j) (hf : (fl w E pl 0 i j).1 = 0) : vlq w cv pl 0 0 i j = vlq w cv' pl 0 0 i j := vl_cg hc _ 0 i j (Nat.le_refl _) (Or.inl ⟨rfl, he⟩) hf 0
end VCG
end
section
/-! A rule's value depends on the values of its own words alone. -/
section VCI
variable {w pl : Nat → Int} {cv cv' : Nat → vrs}
theorem vl_ci : ∀ (n c i j : Nat), 2 * (j - i) + c ≤ n → Eoc w c i j → (∀ k, i ≤ k → k < j → cv k = cv' k) → ∀ x, vlq w cv pl c x i j = vlq w cv' pl c x i j := by
  refine Eo_ind (P := fun c i j => (∀ k, i ≤ k → k < j → cv k = cv' k) → ∀ x, vlq w cv pl c x i j = vlq w cv' pl c x i j) ?_ ?_ ?_ ?_ ?_ ?_ ?_ ?_
  · intro i m q j h1 h2 h3 h4 h5 h6 h7 h8 _ _ _ i1 i2 i3 hc x
    rw [vl_ask h1 h2 h3 h6 h8, vl_ask h1 h2 h3 h6 h8, i1 (fun k a b => hc k a (by omega)) 0, i2 (fun k a b => hc k (by omega) (by omega)) 0, i3 (fun k a b => hc k (by omega) b) 0]
  · intro i m j h1 h2 h3 h4 _ _ i1 i2 hc x
    have i1 := i1 (fun k a b => hc k a (by omega))
    have i2 := i2 (fun k a b => hc k (by omega) b)
    by_cases c1 : w m = 29
    · rw [vl_and h1 h2 h3 c1, vl_and h1 h2 h3 c1, i1 0, i2 0]
    by_cases c2 : w m = 30
    · rw [vl_or h1 h2 h3 c2, vl_or h1 h2 h3 c2, i1 0, i2 0]
    · rw [vl_bin h1 h2 h3 (by omega) c1 c2, vl_bin h1 h2 h3 (by omega) c1 c2, i1 0, i2 0]
  · intro i j h1 h2 h3 _ _ i1 hc x
    rw [vl_par h1 h2 h3, vl_par h1 h2 h3]
    exact i1 (fun k a b => hc k (by omega) (by omega)) 0
  · intro i j h1 h2 h3 _ i1 hc x
    have i1 := i1 (fun k a b => hc k (by omega) b)
    rcases h3 with h3 | h3
    · rw [vl_neg h1 h2 h3, vl_neg h1 h2 h3, i1 0]
    · rw [vl_not h1 h2 h3, vl_not h1 h2 h3, i1 0]
  · intro i h1 h3 hc x
    rw [vl_leaf h1 (by omega) h3, vl_leaf h1 (by omega) h3]
    exact hc i (Nat.le_refl _) (by omega)
  · intro i j h1 h2 h3 _ _ i1 hc x
    rw [vl_lst h1 h2 h3, vl_lst h1 h2 h3]
    exact i1 (fun k a b => hc k (by omega) (by omega)) (w i)
  · intro i j h1 h2 _ i1 hc x
    rw [vl_l1 h1 h2, vl_l1 h1 h2]
    exact i1 hc 0
  · intro i m j h1 h2 h3 h4 h5 _ _ i1 i2 hc x
    rw [vl_ln h1 h4 h2, vl_ln h1 h4 h2, i1 (fun k a b => hc k a (by omega)) x, i2 (fun k a b => hc k (by omega) b) 0]
theorem vl_ci0 {i j : Nat} (hc : ∀ k, i ≤ k → k < j → cv k = cv' k) (he : Eo w 6 i j) : vlq w cv pl 0 0 i j = vlq w cv' pl 0 0 i j := vl_ci _ 0 i j (Nat.le_refl _) (Or.inl ⟨rfl, he⟩) hc 0
end VCI
end
