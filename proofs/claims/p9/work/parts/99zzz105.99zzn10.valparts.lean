/-! What the parts of a node are worth. -/
section PTV
variable {w pl nv S A V F B : Nat → Int} {cv : Nat → vrs}
noncomputable abbrev vlr (w : Nat → Int) (cv : Nat → vrs) (pl : Nat → Int) (r : Nat × Nat) : vrs := vlq w cv pl 0 0 r.1 r.2
/-- the first of some rules that has a fault; (0, 0, 1): none -/
noncomputable def vft (w : Nat → Int) (cv : Nat → vrs) (pl : Nat → Int) : List (Nat × Nat) → vrs
  | [] => (0, 0, 1)
  | r :: rs => if (vlr w cv pl r).1 = 0 then vft w cv pl rs else vlr w cv pl r
/-- all of them, one after another, and then f -/
noncomputable def vsq (w : Nat → Int) (cv : Nat → vrs) (pl : Nat → Int) (rs : List (Nat × Nat)) (f : (Nat → vrs) → vrs) : vrs := if (vft w cv pl rs).1 = 0 then f (fun j => vlr w cv pl (rs.getD j (0, 0))) else vft w cv pl rs
theorem vft_app : ∀ (rs rs' : List (Nat × Nat)), vft w cv pl (rs ++ rs') = if (vft w cv pl rs).1 = 0 then vft w cv pl rs' else vft w cv pl rs
  | [], rs' => by show _ = if (0 : Int) = 0 then _ else _; rw [if_pos rfl]; rfl
  | r :: rs, rs' => by
    show (if (vlr w cv pl r).1 = 0 then vft w cv pl (rs ++ rs') else vlr w cv pl r) = if (if (vlr w cv pl r).1 = 0 then vft w cv pl rs else vlr w cv pl r).1 = 0 then vft w cv pl rs' else if (vlr w cv pl r).1 = 0 then vft w cv pl rs else vlr w cv pl r
    rw [vft_app rs rs']
    by_cases c : (vlr w cv pl r).1 = 0
    · rw [if_pos c, if_pos c]
    · rw [if_neg c, if_neg c, if_neg c]
theorem vr_eta {v : vrs} (h : v.1 = 0) : v = (0, v.2.1, v.2.2) := by rw [← h]
theorem vft_1 {r : Nat × Nat} : vft w cv pl [r] = if (vlr w cv pl r).1 = 0 then (0, 0, 1) else vlr w cv pl r := rfl
theorem bsq_0 {x : Int} {A B : Nat → Int} {k : Nat} : ∀ n, (bsq x A B k n).1 = 0
  | 0 => rfl
  | n + 1 => by
    rw [bsq]
    unfold vbs
    split <;> split <;> rfl
theorem tv_list {y : Int} : ∀ (f c i j : Nat), 2 * (j - i) + c ≤ f → Eoc w c i j → c = 1 → ∀ (x : Int) (n e : Nat), Td w pl nv S A V F B c x i j n e → ∃ rs : List (Nat × Nat), rs ≠ [] ∧ (∀ r, r ∈ rs → Eo w 6 r.1 r.2) ∧ Tbq w pl nv S A V F B x rs n e ∧ vlq w cv pl 1 y i j = vsq w cv pl rs (fun u => bsq y (fun j => (u j).2.1) (fun j => (u j).2.2) 0 (rs.length - 1)) := by
  refine Eo_ind (P := fun c i j => c = 1 → ∀ (x : Int) (n e : Nat), Td w pl nv S A V F B c x i j n e → ∃ rs : List (Nat × Nat), rs ≠ [] ∧ (∀ r, r ∈ rs → Eo w 6 r.1 r.2) ∧ Tbq w pl nv S A V F B x rs n e ∧ vlq w cv pl 1 y i j = vsq w cv pl rs (fun u => bsq y (fun j => (u j).2.1) (fun j => (u j).2.2) 0 (rs.length - 1))) ?_ ?_ ?_ ?_ ?_ ?_ ?_ ?_
  · intros; omega
  · intros; omega
  · intros; omega
  · intros; omega
  · intros; omega
  · intros; omega
  · intro i j h1 h2 he i1 _ x n e ht
    rw [Td_l1 h1 h2] at ht
    refine ⟨[(i, j)], by simp, fun r hr => by rw [List.mem_singleton.1 hr]; exact he, ht, ?_⟩
    rw [vl_l1 h1 h2]
    unfold vsq
    rw [vft_1]
    by_cases c : (vlr w cv pl (i, j)).1 = 0
    · rw [if_pos c, if_pos rfl]
      exact vr_eta c
    · rw [if_neg c, if_neg c]
  · intro i m j h1 h2 h3 h4 h5 o1 o2 i1 i2 _ x n e ht
    rw [Td_ln h1 h4 h2] at ht
    obtain ⟨k, t1, t2, b1⟩ := ht
    obtain ⟨rs, r1, r2, r3, r4⟩ := i1 rfl _ _ _ t1
    refine ⟨rs ++ [(m + 1, j)], by simp, fun r hr => ?_, r3.app rs t2 b1, ?_⟩
    · rcases List.mem_append.1 hr with q | q
      · exact r2 r q
      · rw [List.mem_singleton.1 q]; exact o2
    · rw [vl_ln h1 h4 h2, r4]
      have l1 : 1 ≤ rs.length := by
        cases rs with
        | nil => exact absurd rfl r1
        | cons r rs => simp
      have gl : ∀ t, t < rs.length → (rs ++ [(m + 1, j)]).getD t (0, 0) = rs.getD t (0, 0) := fun t h => by
        rw [List.getD_eq_getElem?_getD, List.getD_eq_getElem?_getD, List.getElem?_append_left h]
      have gr : (rs ++ [(m + 1, j)]).getD rs.length (0, 0) = (m + 1, j) := by
        rw [List.getD_eq_getElem?_getD, List.getElem?_append_right (Nat.le_refl _), Nat.sub_self]
        rfl
      unfold vsq
      rw [vft_app, vft_1]
      by_cases c : (vft w cv pl rs).1 = 0
      · rw [if_pos c, if_pos c]
        rw [vbd, if_pos (bsq_0 _)]
        show vbd (vlr w cv pl (m + 1, j)) _ = _
        by_cases c2 : (vlr w cv pl (m + 1, j)).1 = 0
        · rw [if_pos c2, if_pos rfl, vbd, if_pos c2]
          have e1 : (rs ++ [(m + 1, j)]).length - 1 = (rs.length - 1) + 1 := by simp; omega
          show vbs y _ _ _ _ = bsq y _ _ 0 ((rs ++ [(m + 1, j)]).length - 1)
          rw [e1, bsq]
          have e2 : 0 + (rs.length - 1) + 1 = rs.length := by omega
          rw [e2]
          simp only [gr]
          have e3 : bsq y (fun j' => (vlr w cv pl ((rs ++ [(m + 1, j)]).getD j' (0, 0))).2.1) (fun j' => (vlr w cv pl ((rs ++ [(m + 1, j)]).getD j' (0, 0))).2.2) 0 (rs.length - 1) = bsq y (fun j' => (vlr w cv pl (rs.getD j' (0, 0))).2.1) (fun j' => (vlr w cv pl (rs.getD j' (0, 0))).2.2) 0 (rs.length - 1) := bsq_cg _ (fun j' hj => by
            show (vlr w cv pl ((rs ++ [(m + 1, j)]).getD (0 + j') (0, 0))).2.1 = (vlr w cv pl (rs.getD (0 + j') (0, 0))).2.1 ∧ _
            rw [gl (0 + j') (by omega)]
            exact ⟨rfl, rfl⟩)
          rw [e3]
        · rw [if_neg c2, if_neg c2, vbd, if_neg c2]
      · rw [if_neg c, if_neg c, if_neg c, vbd, if_neg c]
/-- a leaf, or a node with parts: what it is worth -/
theorem tv_node : ∀ (f c i j : Nat), 2 * (j - i) + c ≤ f → Eoc w c i j → c = 0 → ∀ (x x' : Int) (n e : Nat), Td w pl nv S A V F B c x i j n e →
    (F n = -1 ∧ e = n + 1 ∧ ∃ k, (w k = 1 ∨ w k = 2 ∨ w k = 12 ∨ w k = 13) ∧ S n = w k ∧ V n = nv k ∧ vlq w cv pl 0 x' i j = cv k)
    ∨ (F n = ((n + 1 : Nat) : Int) ∧ ∃ rs : List (Nat × Nat), rs ≠ [] ∧ (∀ r, r ∈ rs → Eo w 6 r.1 r.2) ∧ Tbq w pl nv S A V F B (-1) rs (n + 1) e ∧ (S n ≠ 1 ∧ S n ≠ 2 ∧ S n ≠ 12 ∧ S n ≠ 13) ∧ (((S n ≠ 29 ∧ S n ≠ 30 ∧ S n ≠ 32) ∧ vlq w cv pl 0 x' i j = vsq w cv pl rs (fnv (S n) (A n) rs.length)) ∨ ((S n = 29 ∨ S n = 30) ∧ ∃ r1 r2, rs = [r1, r2] ∧ vlq w cv pl 0 x' i j = vbd (vlr w cv pl r1) (fun a b => if S n = 29 ↔ a = 0 then (0, a, b) else vlr w cv pl r2)) ∨ (S n = 32 ∧ ∃ r1 r2 r3, rs = [r1, r2, r3] ∧ vlq w cv pl 0 x' i j = vbd (vlr w cv pl r1) (fun a _ => if a = 0 then vlr w cv pl r3 else vlr w cv pl r2)))) := by
  refine Eo_ind (P := fun c i j => c = 0 → ∀ (x x' : Int) (n e : Nat), Td w pl nv S A V F B c x i j n e → (F n = -1 ∧ e = n + 1 ∧ ∃ k, (w k = 1 ∨ w k = 2 ∨ w k = 12 ∨ w k = 13) ∧ S n = w k ∧ V n = nv k ∧ vlq w cv pl 0 x' i j = cv k) ∨ (F n = ((n + 1 : Nat) : Int) ∧ ∃ rs : List (Nat × Nat), rs ≠ [] ∧ (∀ r, r ∈ rs → Eo w 6 r.1 r.2) ∧ Tbq w pl nv S A V F B (-1) rs (n + 1) e ∧ (S n ≠ 1 ∧ S n ≠ 2 ∧ S n ≠ 12 ∧ S n ≠ 13) ∧ (((S n ≠ 29 ∧ S n ≠ 30 ∧ S n ≠ 32) ∧ vlq w cv pl 0 x' i j = vsq w cv pl rs (fnv (S n) (A n) rs.length)) ∨ ((S n = 29 ∨ S n = 30) ∧ ∃ r1 r2, rs = [r1, r2] ∧ vlq w cv pl 0 x' i j = vbd (vlr w cv pl r1) (fun a b => if S n = 29 ↔ a = 0 then (0, a, b) else vlr w cv pl r2)) ∨ (S n = 32 ∧ ∃ r1 r2 r3, rs = [r1, r2, r3] ∧ vlq w cv pl 0 x' i j = vbd (vlr w cv pl r1) (fun a _ => if a = 0 then vlr w cv pl r3 else vlr w cv pl r2))))) ?_ ?_ ?_ ?_ ?_ ?_ ?_ ?_
  · intro i m q j h1 h2 h3 h4 h5 h6 h7 h8 o1 o2 o3 _ _ _ _ x x' n e ht
    rw [Td_ask h1 h2 h3 h6 h8] at ht
    obtain ⟨a, b, ⟨s1, s2, s3⟩, t1, b1, t2, b2, t3, b3⟩ := ht
    refine Or.inr ⟨s3, [(i, m), (m + 1, q), (q + 1, j)], by simp, fun r hr => ?_, ⟨a, t1, b1, b, t2, b2, t3, b3⟩, by omega, Or.inr (Or.inr ⟨by rw [s1]; exact h6, _, _, _, rfl, vl_ask h1 h2 h3 h6 h8⟩)⟩
    simp at hr
    rcases hr with hr | hr | hr <;> subst hr
    · exact o1
    · exact o2
    · exact o3
  · intro i m j h1 h2 h3 h4 o1 o2 _ _ _ x x' n e ht
    rw [Td_bin h1 h2 h3 (by omega)] at ht
    obtain ⟨a, ⟨s1, s2, s3⟩, t1, b1, t2, b2⟩ := ht
    refine Or.inr ⟨s3, [(i, m), (m + 1, j)], by simp, fun r hr => ?_, ⟨a, t1, b1, t2, b2⟩, by omega, ?_⟩
    · simp at hr
      rcases hr with hr | hr <;> subst hr
      · exact o1
      · exact o2
    · by_cases c29 : w m = 29
      · refine Or.inr (Or.inl ⟨by omega, _, _, rfl, ?_⟩)
        rw [vl_and h1 h2 h3 c29]
        congr 1
        funext a b
        have : S n = 29 := by omega
        simp [this]
      · by_cases c30 : w m = 30
        · refine Or.inr (Or.inl ⟨by omega, _, _, rfl, ?_⟩)
          rw [vl_or h1 h2 h3 c30]
          congr 1
          funext a b
          have : ¬ S n = 29 := by omega
          by_cases a0 : a = 0 <;> simp [this, a0]
        · refine Or.inl ⟨by omega, ?_⟩
          rw [vl_bin h1 h2 h3 (by omega) c29 c30]
          unfold vsq
          show _ = if (if (vlr w cv pl (i, m)).1 = 0 then (if (vlr w cv pl (m + 1, j)).1 = 0 then ((0, 0, 1) : vrs) else vlr w cv pl (m + 1, j)) else vlr w cv pl (i, m)).1 = 0 then _ else (if (vlr w cv pl (i, m)).1 = 0 then (if (vlr w cv pl (m + 1, j)).1 = 0 then ((0, 0, 1) : vrs) else vlr w cv pl (m + 1, j)) else vlr w cv pl (i, m))
          by_cases c1 : (vlr w cv pl (i, m)).1 = 0
          · rw [vbd, if_pos c1, if_pos c1]
            by_cases c2 : (vlr w cv pl (m + 1, j)).1 = 0
            · rw [vbd, if_pos c2, if_pos c2, if_pos rfl]
              unfold fnv
              rw [if_neg (by omega), if_neg (by omega), if_neg (by omega), s1, s2]
              rfl
            · rw [vbd, if_neg c2, if_neg c2, if_neg c2]
          · rw [vbd, if_neg c1, if_neg c1, if_neg c1]
  · intro i j h1 h2 h3 _ _ i1 _ x x' n e ht
    rw [Td_par h1 h2 h3] at ht
    rw [vl_par h1 h2 h3]
    exact i1 rfl _ 0 _ _ ht
  · intro i j h1 h2 h3 o1 _ _ x x' n e ht
    rw [Td_pre h1 h2 h3] at ht
    obtain ⟨⟨s1, s2, s3⟩, t1, b1⟩ := ht
    have s4 : S n = 45 ∨ S n = 31 := by rw [s1]; split <;> simp
    refine Or.inr ⟨s3, [(i + 1, j)], by simp, fun r hr => by rw [List.mem_singleton.1 hr]; exact o1, ⟨t1, b1⟩, by omega, Or.inl ⟨by omega, ?_⟩⟩
    unfold vsq
    rw [vft_1]
    rcases h3 with h3 | h3
    · rw [if_pos h3] at s1
      rw [vl_neg h1 h2 h3]
      by_cases c1 : (vlr w cv pl (i + 1, j)).1 = 0
      · rw [vbd, if_pos c1, if_pos c1, if_pos rfl]
        unfold fnv
        rw [if_neg (by omega), if_pos s1]
        rfl
      · rw [vbd, if_neg c1, if_neg c1, if_neg c1]
    · rw [if_neg (by omega)] at s1
      rw [vl_not h1 h2 h3]
      by_cases c1 : (vlr w cv pl (i + 1, j)).1 = 0
      · rw [vbd, if_pos c1, if_pos c1, if_pos rfl]
        unfold fnv
        rw [if_pos s1]
        rfl
      · rw [vbd, if_neg c1, if_neg c1, if_neg c1]
  · intro i h1 h3 _ x x' n e ht
    rw [Td_leaf h1 (by omega) h3] at ht
    obtain ⟨rfl, s1, s2, s3, s4⟩ := ht
    exact Or.inl ⟨s3, rfl, i, h3, s1, s4, vl_leaf h1 (by omega) h3⟩
  · intro i j h1 h2 h3 _ o7 _ _ x x' n e ht
    rw [Td_lst h1 h2 h3] at ht
    obtain ⟨⟨s1, s2, s3⟩, t1⟩ := ht
    obtain ⟨rs, r1, r2, r3, r4⟩ := tv_list (cv := cv) (y := w i) _ 1 (i + 2) (j - 1) (Nat.le_refl _) (Or.inr ⟨rfl, o7⟩) rfl _ _ _ t1
    refine Or.inr ⟨s3, rs, r1, r2, r3, by omega, Or.inl ⟨by omega, ?_⟩⟩
    rw [vl_lst h1 h2 h3, r4]
    unfold vsq fnv
    rw [if_neg (show ¬ S n = 31 by omega), if_neg (show ¬ S n = 45 by omega), if_pos (show S n = 14 ∨ S n = 15 by omega), s1]
  · intros; omega
  · intros; omega
end PTV
