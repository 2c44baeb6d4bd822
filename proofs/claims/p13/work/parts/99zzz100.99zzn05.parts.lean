/-! What the parts of a node mean. -/
section PTS
variable {w E pl nv S A V F B : Nat → Int}
/-- the first fault of some rules, one after another -/
noncomputable def flr (w E pl : Nat → Int) : List (Nat × Nat) → Int × Int
  | [] => (0, 0)
  | r :: rs => fst9 (fl w E pl 0 r.1 r.2) (flr w E pl rs)
/-- their kinds -/
noncomputable def kdl (w E : Nat → Int) (rs : List (Nat × Nat)) (t : Nat) : Int := kdq w E 0 (rs.getD t (0, 0)).1 (rs.getD t (0, 0)).2
theorem flr_app : ∀ (rs rs' : List (Nat × Nat)), flr w E pl (rs ++ rs') = fst9 (flr w E pl rs) (flr w E pl rs')
  | [], rs' => (fst9_0 _).symm
  | r :: rs, rs' => by
    show fst9 _ (flr w E pl (rs ++ rs')) = fst9 (fst9 _ _) _
    rw [flr_app rs rs', fst9_a]
theorem fl_zz : ∀ (f c i j : Nat), 2 * (j - i) + c ≤ f → Eoc w c i j → (fl w E pl c i j).1 = 0 → fl w E pl c i j = (0, 0) := by
  have f2 : ∀ {a b : Int × Int}, (a.1 = 0 → a = (0, 0)) → (b.1 = 0 → b = (0, 0)) → (fst9 a b).1 = 0 → fst9 a b = (0, 0) := fun ha hb h => by
    obtain ⟨h1, h2⟩ := fst9_1.mp h
    rw [ha h1, fst9_0, hb h2]
  have fk : ∀ {p : Prop} {x : Int}, (kft p x).1 = 0 → kft p x = (0, 0) := fun {p x} h => by
    have := kft_1.mp h
    unfold kft
    rw [if_pos this]
  refine Eo_ind (P := fun c i j => (fl w E pl c i j).1 = 0 → fl w E pl c i j = (0, 0)) ?_ ?_ ?_ ?_ ?_ ?_ ?_ ?_
  · intro i m q j h1 h2 h3 h4 h5 h6 h7 h8 _ _ _ i1 i2 i3
    rw [fl_ask h1 h2 h3 h6 h8]
    exact f2 (f2 (f2 i1 i2) i3) fk
  · intro i m j h1 h2 h3 h4 _ _ i1 i2
    rw [fl_bin h1 h2 h3 (by omega)]
    exact f2 (f2 i1 i2) fk
  · intro i j h1 h2 h3 _ _ i1
    rw [fl_par h1 h2 h3]
    exact i1
  · intro i j h1 h2 h3 _ i1
    rcases h3 with h3 | h3
    · rw [fl_neg h1 h2 h3]; exact f2 i1 fk
    · rw [fl_not h1 h2 h3]; exact f2 i1 fk
  · intro i h1 h3
    rw [fl_leaf h1 (by omega) h3]
    split
    · intro h; exact absurd h (by simp)
    · intro _; rfl
  · intro i j h1 h2 h3 _ _ i1
    rw [fl_lst h1 h2 h3]
    exact f2 i1 fk
  · intro i j h1 h2 _ i1
    rw [fl_l1 h1 h2]
    exact i1
  · intro i m j h1 h2 h3 h4 h5 _ _ i1 i2
    rw [fl_ln h1 h4 h2]
    exact f2 i1 i2
theorem fl_z {i j : Nat} (he : Eo w 6 i j) (h : (fl w E pl 0 i j).1 = 0) : fl w E pl 0 i j = (0, 0) := fl_zz _ 0 i j (Nat.le_refl _) (Or.inl ⟨rfl, he⟩) h
theorem kf_01 : ∀ (f c i j : Nat), 2 * (j - i) + c ≤ f → Eoc w c i j → kdq w E c i j = 0 ∨ kdq w E c i j = 1 := by
  refine Eo_ind (P := fun c i j => kdq w E c i j = 0 ∨ kdq w E c i j = 1) ?_ ?_ ?_ ?_ ?_ ?_ ?_ ?_
  · intro i m q j h1 h2 h3 h4 h5 h6 h7 h8 _ _ _ i1 i2 i3
    rw [kd_ask h1 h2 h3 h6 h8]; exact i3
  · intro i m j h1 h2 h3 h4 _ _ i1 i2
    rw [kd_bin h1 h2 h3 (by omega)]
    split
    · exact Or.inr rfl
    · exact Or.inl rfl
  · intro i j h1 h2 h3 _ _ i1
    rw [kd_par h1 h2 h3]; exact i1
  · intro i j h1 h2 h3 _ i1
    rcases h3 with h3 | h3
    · rw [kd_num h1 h2 (Or.inl h3)]; exact Or.inl rfl
    · rw [kd_tru h1 h2 (Or.inl h3)]; exact Or.inr rfl
  · intro i h1 h3
    rcases h3 with h3 | h3 | h3
    · rw [kd_nam h1 (by omega) h3]
      split
      · exact Or.inr rfl
      · exact Or.inl rfl
    · rw [kd_num h1 (by omega) (Or.inr (Or.inl h3))]; exact Or.inl rfl
    · rw [kd_tru h1 (by omega) (Or.inr h3)]; exact Or.inr rfl
  · intro i j h1 h2 h3 _ _ i1
    rw [kd_num h1 h2 (Or.inr (Or.inr h3))]; exact Or.inl rfl
  · intro i j h1 h2 _ i1
    rw [kd_l1 h1 h2]; exact i1
  · intro i m j h1 h2 h3 h4 h5 _ _ i1 i2
    rw [kd_ln h1 h4 h2]
    split
    · exact Or.inr rfl
    · exact Or.inl rfl
theorem kf01 {i j : Nat} (h : Eo w 6 i j) : kdq w E 0 i j = 0 ∨ kdq w E 0 i j = 1 := kf_01 _ 0 i j (Nat.le_refl _) (Or.inl ⟨rfl, h⟩)
theorem kdl_01 {rs : List (Nat × Nat)} (h : ∀ r, r ∈ rs → Eo w 6 r.1 r.2) {t : Nat} (ht : t < rs.length) : kdl w E rs t = 0 ∨ kdl w E rs t = 1 := by
  unfold kdl
  rw [List.getD_eq_getElem?_getD, List.getElem?_eq_getElem ht]
  exact kf01 (h _ (List.getElem_mem ht))
theorem Tbq.app {i' j' e : Nat} {x : Int} : ∀ (rs : List (Nat × Nat)) {n k : Nat}, Tbq w pl nv S A V F B (k : Int) rs n k → Td w pl nv S A V F B 0 0 i' j' k e → B k = x → Tbq w pl nv S A V F B x (rs ++ [(i', j')]) n e
  | [], _, _, h, _, _ => h.elim
  | [(i, j)], n, k, h, h2, h3 => ⟨k, h.1, h.2, h2, h3⟩
  | (i, j) :: r :: rs, n, k, h, h2, h3 => by
    obtain ⟨m, k1, k2, k3⟩ := h
    exact ⟨m, k1, k2, Tbq.app (r :: rs) k3 h2 h3⟩
theorem td_tb : ∀ (f c i j : Nat), 2 * (j - i) + c ≤ f → Eoc w c i j → c = 1 → ∀ (x : Int) (n e : Nat), Td w pl nv S A V F B c x i j n e → ∃ rs : List (Nat × Nat), rs ≠ [] ∧ (∀ r, r ∈ rs → Eo w 6 r.1 r.2) ∧ Tbq w pl nv S A V F B x rs n e ∧ fl w E pl 1 i j = flr w E pl rs ∧ (kdq w E 1 i j = 1 ↔ ∃ t, t < rs.length ∧ kdl w E rs t = 1) := by
  refine Eo_ind (P := fun c i j => c = 1 → ∀ (x : Int) (n e : Nat), Td w pl nv S A V F B c x i j n e → ∃ rs : List (Nat × Nat), rs ≠ [] ∧ (∀ r, r ∈ rs → Eo w 6 r.1 r.2) ∧ Tbq w pl nv S A V F B x rs n e ∧ fl w E pl 1 i j = flr w E pl rs ∧ (kdq w E 1 i j = 1 ↔ ∃ t, t < rs.length ∧ kdl w E rs t = 1)) ?_ ?_ ?_ ?_ ?_ ?_ ?_ ?_
  · intros; omega
  · intros; omega
  · intros; omega
  · intros; omega
  · intros; omega
  · intros; omega
  · intro i j h1 h2 he i1 _ x n e ht
    rw [Td_l1 h1 h2] at ht
    refine ⟨[(i, j)], by simp, fun r hr => by rw [List.mem_singleton.1 hr]; exact he, ht, ?_, ?_⟩
    · rw [fl_l1 h1 h2]
      show _ = fst9 (fl w E pl 0 i j) (0, 0)
      unfold fst9
      split
      · rename_i h0; exact fl_z he h0
      · rfl
    · rw [kd_l1 h1 h2]
      refine ⟨fun h => ⟨0, by simp, h⟩, fun ⟨t, h3, h4⟩ => ?_⟩
      have : t = 0 := by simp at h3; omega
      subst this
      exact h4
  · intro i m j h1 h2 h3 h4 h5 o1 o2 i1 i2 _ x n e ht
    rw [Td_ln h1 h4 h2] at ht
    obtain ⟨k, t1, t2, b1⟩ := ht
    obtain ⟨rs, r1, r2, r3, r4, r5⟩ := i1 rfl _ _ _ t1
    have gl : ∀ t, t < rs.length → kdl w E (rs ++ [(m + 1, j)]) t = kdl w E rs t := fun t h => by
      unfold kdl
      rw [List.getD_eq_getElem?_getD, List.getD_eq_getElem?_getD, List.getElem?_append_left h]
    have gr : kdl w E (rs ++ [(m + 1, j)]) rs.length = kdq w E 0 (m + 1) j := by
      unfold kdl
      rw [List.getD_eq_getElem?_getD, List.getElem?_append_right (Nat.le_refl _), Nat.sub_self]
      rfl
    refine ⟨rs ++ [(m + 1, j)], by simp, fun r hr => ?_, r3.app rs t2 b1, ?_, ?_⟩
    · rcases List.mem_append.1 hr with q | q
      · exact r2 r q
      · rw [List.mem_singleton.1 q]; exact o2
    · rw [fl_ln h1 h4 h2, r4, flr_app]
      congr 1
      show _ = fst9 (fl w E pl 0 (m + 1) j) (0, 0)
      unfold fst9
      split
      · rename_i h0; exact fl_z o2 h0
      · rfl
    · rw [kd_ln h1 h4 h2]
      constructor
      · intro h
        by_cases c1 : kdq w E 0 (m + 1) j = 1
        · exact ⟨rs.length, by simp, by rw [gr]; exact c1⟩
        · by_cases c2 : kdq w E 1 i m = 1
          · obtain ⟨t, h6, h7⟩ := r5.mp c2
            exact ⟨t, by simp; omega, by rw [gl t h6]; exact h7⟩
          · rw [if_neg (fun q => q.elim c2 c1)] at h
            exact absurd h (by decide)
      · intro ⟨t, h6, h7⟩
        rw [if_pos]
        simp at h6
        by_cases c : t < rs.length
        · rw [gl t c] at h7
          exact Or.inl (r5.mpr ⟨t, c, h7⟩)
        · rw [show t = rs.length by omega, gr] at h7
          exact Or.inr h7
theorem kft_cg {p q : Prop} {x : Int} (h : p ↔ q) : kft p x = kft q x := by rw [propext h]
/-- a leaf, or a node with parts -/
theorem td_node : ∀ (f c i j : Nat), 2 * (j - i) + c ≤ f → Eoc w c i j → c = 0 → ∀ (x : Int) (n e : Nat), Td w pl nv S A V F B c x i j n e →
    (F n = -1 ∧ e = n + 1 ∧ ∃ k, (i ≤ k ∧ k < j) ∧ (w k = 1 ∨ w k = 2 ∨ w k = 12 ∨ w k = 13) ∧ S n = w k ∧ A n = pl k ∧ V n = nv k ∧ fl w E pl 0 i j = (if w k = 1 ∧ E k = -1 then (2, pl k) else (0, 0)) ∧ kdq w E 0 i j = (if w k = 12 ∨ w k = 13 ∨ (w k = 1 ∧ E k = 1) then 1 else 0))
    ∨ (F n = ((n + 1 : Nat) : Int) ∧ ∃ rs : List (Nat × Nat), rs ≠ [] ∧ (∀ r, r ∈ rs → Eo w 6 r.1 r.2) ∧ Tbq w pl nv S A V F B (-1) rs (n + 1) e ∧ (S n ≠ 1 ∧ S n ≠ 2 ∧ S n ≠ 12 ∧ S n ≠ 13) ∧ ari (S n) rs.length ∧ fl w E pl 0 i j = fst9 (flr w E pl rs) (kft (gdt (S n) rs.length (kdl w E rs)) (A n)) ∧ kdq w E 0 i j = tyt (S n) (kdl w E rs)) := by
  have fz : ∀ {i j : Nat}, Eo w 6 i j → fst9 (fl w E pl 0 i j) (0, 0) = fl w E pl 0 i j := fun {i j} he => by
    unfold fst9
    split
    · rename_i h0; exact (fl_z he h0).symm
    · rfl
  refine Eo_ind (P := fun c i j => c = 0 → ∀ (x : Int) (n e : Nat), Td w pl nv S A V F B c x i j n e → (F n = -1 ∧ e = n + 1 ∧ ∃ k, (i ≤ k ∧ k < j) ∧ (w k = 1 ∨ w k = 2 ∨ w k = 12 ∨ w k = 13) ∧ S n = w k ∧ A n = pl k ∧ V n = nv k ∧ fl w E pl 0 i j = (if w k = 1 ∧ E k = -1 then (2, pl k) else (0, 0)) ∧ kdq w E 0 i j = (if w k = 12 ∨ w k = 13 ∨ (w k = 1 ∧ E k = 1) then 1 else 0)) ∨ (F n = ((n + 1 : Nat) : Int) ∧ ∃ rs : List (Nat × Nat), rs ≠ [] ∧ (∀ r, r ∈ rs → Eo w 6 r.1 r.2) ∧ Tbq w pl nv S A V F B (-1) rs (n + 1) e ∧ (S n ≠ 1 ∧ S n ≠ 2 ∧ S n ≠ 12 ∧ S n ≠ 13) ∧ ari (S n) rs.length ∧ fl w E pl 0 i j = fst9 (flr w E pl rs) (kft (gdt (S n) rs.length (kdl w E rs)) (A n)) ∧ kdq w E 0 i j = tyt (S n) (kdl w E rs))) ?_ ?_ ?_ ?_ ?_ ?_ ?_ ?_
  · intro i m q j h1 h2 h3 h4 h5 h6 h7 h8 o1 o2 o3 _ _ _ _ x n e ht
    rw [Td_ask h1 h2 h3 h6 h8] at ht
    obtain ⟨a, b, ⟨s1, s2, s3⟩, t1, b1, t2, b2, t3, b3⟩ := ht
    refine Or.inr ⟨s3, [(i, m), (m + 1, q), (q + 1, j)], by simp, fun r hr => ?_, ⟨a, t1, b1, b, t2, b2, t3, b3⟩, by omega, by rw [s1, h6]; exact Or.inr (Or.inr (Or.inl ⟨rfl, rfl⟩)), ?_, ?_⟩
    · simp at hr
      rcases hr with hr | hr | hr <;> subst hr
      · exact o1
      · exact o2
      · exact o3
    · rw [fl_ask h1 h2 h3 h6 h8, s2]
      show _ = fst9 (fst9 (fl w E pl 0 i m) (fst9 (fl w E pl 0 (m + 1) q) (fst9 (fl w E pl 0 (q + 1) j) (0, 0)))) _
      rw [fz o3, fst9_a (fl w E pl 0 i m)]
      congr 1
      refine kft_cg ?_
      unfold gdt
      rw [s1, h6, if_neg (by decide), if_neg (by decide), if_pos rfl]
      exact Iff.rfl
    · rw [kd_ask h1 h2 h3 h6 h8]
      unfold tyt
      rw [s1, h6, if_neg (by decide), if_pos rfl]
      rfl
  · intro i m j h1 h2 h3 h4 o1 o2 _ _ _ x n e ht
    rw [Td_bin h1 h2 h3 (by omega)] at ht
    obtain ⟨a, ⟨s1, s2, s3⟩, t1, b1, t2, b2⟩ := ht
    refine Or.inr ⟨s3, [(i, m), (m + 1, j)], by simp, fun r hr => ?_, ⟨a, t1, b1, t2, b2⟩, by omega, by rw [s1]; exact Or.inr (Or.inl ⟨h4, rfl⟩), ?_, ?_⟩
    · simp at hr
      rcases hr with hr | hr <;> subst hr
      · exact o1
      · exact o2
    · rw [fl_bin h1 h2 h3 (by omega), s2]
      show _ = fst9 (fst9 (fl w E pl 0 i m) (fst9 (fl w E pl 0 (m + 1) j) (0, 0))) _
      rw [fz o2]
      congr 1
      refine kft_cg ?_
      have all2 : ∀ y : Int, (kdq w E 0 i m = y ∧ kdq w E 0 (m + 1) j = y) ↔ ∀ t, t < 2 → kdl w E [(i, m), (m + 1, j)] t = y := fun y => by
        constructor
        · intro ⟨u1, u2⟩ t ht
          have : t = 0 ∨ t = 1 := by omega
          rcases this with rfl | rfl
          · exact u1
          · exact u2
        · intro u
          exact ⟨u 0 (by omega), u 1 (by omega)⟩
      unfold okq gdt
      rw [s1]
      by_cases c1 : w m = 29 ∨ w m = 30
      · rw [if_pos c1, if_pos (show w m = 29 ∨ w m = 30 ∨ w m = 31 by omega)]
        exact all2 1
      · rw [if_neg c1, if_neg (show ¬ (w m = 29 ∨ w m = 30 ∨ w m = 31) by omega)]
        by_cases c2 : w m = 23 ∨ w m = 18
        · rw [if_pos c2, if_pos (show w m = 18 ∨ w m = 23 by omega)]
          exact Iff.rfl
        · rw [if_neg c2, if_neg (show ¬ (w m = 18 ∨ w m = 23) by omega), if_neg (show ¬ w m = 32 by omega)]
          exact all2 0
    · rw [kd_bin h1 h2 h3 (by omega)]
      unfold tyt tru
      rw [s1]
      by_cases c1 : (18 ≤ w m ∧ w m ≤ 23) ∨ w m = 29 ∨ w m = 30
      · rw [if_pos c1]
        by_cases c2 : w m = 29 ∨ w m = 30 ∨ w m = 31 ∨ w m = 18 ∨ w m = 23
        · rw [if_pos c2]
        · rw [if_neg c2, if_neg (by omega), if_pos (by omega)]
      · rw [if_neg c1, if_neg (by omega), if_neg (by omega), if_neg (by omega)]
  · intro i j h1 h2 h3 _ _ i1 _ x n e ht
    rw [Td_par h1 h2 h3] at ht
    rw [fl_par h1 h2 h3, kd_par h1 h2 h3]
    rcases i1 rfl _ _ _ ht with ⟨a1, a2, k, a3, a4⟩ | q
    · exact Or.inl ⟨a1, a2, k, by omega, a4⟩
    · exact Or.inr q
  · intro i j h1 h2 h3 o1 _ _ x n e ht
    rw [Td_pre h1 h2 h3] at ht
    obtain ⟨⟨s1, s2, s3⟩, t1, b1⟩ := ht
    have all1 : ∀ y : Int, kdq w E 0 (i + 1) j = y ↔ ∀ t, t < 1 → kdl w E [(i + 1, j)] t = y := fun y => by
      constructor
      · intro u t ht
        rw [show t = 0 by omega]
        exact u
      · intro u
        exact u 0 (by omega)
    refine Or.inr ⟨s3, [(i + 1, j)], by simp, fun r hr => by rw [List.mem_singleton.1 hr]; exact o1, ⟨t1, b1⟩, ?_, ?_, ?_, ?_⟩
    · rw [s1]; split <;> decide
    · rw [s1]; refine Or.inl ⟨?_, rfl⟩; split <;> simp
    · rw [s2]
      show _ = fst9 (fst9 (fl w E pl 0 (i + 1) j) (0, 0)) _
      rw [fz o1]
      rcases h3 with h3 | h3
      · rw [fl_neg h1 h2 h3]
        congr 1
        refine kft_cg ?_
        unfold gdt
        rw [s1, if_pos h3, if_neg (by decide), if_neg (by decide), if_neg (by decide)]
        exact all1 0
      · rw [fl_not h1 h2 h3]
        congr 1
        refine kft_cg ?_
        unfold gdt
        rw [s1, if_neg (show ¬ w i = 25 by omega), if_pos (by decide)]
        exact all1 1
    · unfold tyt
      rcases h3 with h3 | h3
      · rw [kd_num h1 h2 (Or.inl h3), s1, if_pos h3]
        rfl
      · rw [kd_tru h1 h2 (Or.inl h3), s1, if_neg (show ¬ w i = 25 by omega)]
        rfl
  · intro i h1 h3 _ x n e ht
    rw [Td_leaf h1 (by omega) h3] at ht
    obtain ⟨rfl, s1, s2, s3, s4⟩ := ht
    refine Or.inl ⟨s3, rfl, i, ⟨Nat.le_refl _, by omega⟩, h3, s1, s2, s4, fl_leaf h1 (by omega) h3, ?_⟩
    rcases h3 with h3 | h3 | h3
    · rw [kd_nam h1 (by omega) h3]
      by_cases c : E i = 1
      · rw [if_pos c, if_pos (Or.inr (Or.inr ⟨h3, c⟩))]
      · rw [if_neg c, if_neg (by omega)]
    · rw [kd_num h1 (by omega) (Or.inr (Or.inl h3)), if_neg (by omega)]
    · rw [kd_tru h1 (by omega) (Or.inr h3), if_pos (by omega)]
  · intro i j h1 h2 h3 _ o7 _ _ x n e ht
    rw [Td_lst h1 h2 h3] at ht
    obtain ⟨⟨s1, s2, s3⟩, t1⟩ := ht
    have y0 : S n ≠ 1 ∧ S n ≠ 2 ∧ S n ≠ 12 ∧ S n ≠ 13 := by omega
    have y1 : ¬ (w i = 29 ∨ w i = 30 ∨ w i = 31) := by omega
    have y2 : ¬ (w i = 18 ∨ w i = 23) := by omega
    have y3 : ¬ w i = 32 := by omega
    have y4 : ¬ (w i = 29 ∨ w i = 30 ∨ w i = 31 ∨ w i = 18 ∨ w i = 23) := by omega
    have y5 : ¬ (19 ≤ w i ∧ w i ≤ 22) := by omega
    obtain ⟨rs, r1, r2, r3, r4, r5⟩ := td_tb (E := E) _ 1 (i + 2) (j - 1) (Nat.le_refl _) (Or.inr ⟨rfl, o7⟩) rfl _ _ _ t1
    refine Or.inr ⟨s3, rs, r1, r2, r3, y0, by rw [s1]; exact Or.inr (Or.inr (Or.inr h3)), ?_, ?_⟩
    · rw [fl_lst h1 h2 h3, r4, s2]
      congr 1
      refine kft_cg ?_
      unfold gdt
      rw [s1, if_neg y1, if_neg y2, if_neg y3]
      constructor
      · intro u t ht
        rcases kdl_01 (E := E) r2 ht with v | v
        · exact v
        · have z1 := r5.mpr ⟨t, ht, v⟩
          rw [u] at z1
          exact absurd z1 (by decide)
      · intro u
        rcases kf_01 (E := E) _ 1 (i + 2) (j - 1) (Nat.le_refl _) (Or.inr ⟨rfl, o7⟩) with v | v
        · exact v
        · obtain ⟨t, h6, h7⟩ := r5.mp v
          have z1 := u t h6
          rw [h7] at z1
          exact absurd z1 (by decide)
    · rw [kd_num h1 h2 (Or.inr (Or.inr h3))]
      unfold tyt
      rw [s1, if_neg y4, if_neg y3, if_neg y5]
  · intros; omega
  · intros; omega
end PTS
