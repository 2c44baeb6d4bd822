/-! The reference's tree of a rule: pure. S sorts, A places, V values, F first parts, B brothers of nodes. -/
/-- the nodes n to e - 1 are the tree of the words i to j - 1; c = 1: brothers, one for each part of a list, the last one's brother is x -/
def Td (w pl nv S A V F B : Nat → Int) (c : Nat) (x : Int) (i j n e : Nat) : Prop :=
  haveI := Classical.propDecidable (lin w i j)
  if hij : i < j then
    if hc : c = 1 then
      if hp : lcq w i (j - i) = 0 then Td w pl nv S A V F B 0 0 i j n e ∧ B n = x
      else ∃ m : Nat, Td w pl nv S A V F B 1 (m : Int) i (i + lcq w i (j - i) - 1) n m ∧ Td w pl nv S A V F B 0 0 (i + lcq w i (j - i)) j m e ∧ B m = x
    else if hm : lin w i j then
      if w (loq w i j) = 32 then ∃ a b : Nat, (S n = w (loq w i j) ∧ A n = pl (loq w i j) ∧ F n = ((n + 1 : Nat) : Int)) ∧ Td w pl nv S A V F B 0 0 i (loq w i j) (n + 1) a ∧ B (n + 1) = (a : Int) ∧ Td w pl nv S A V F B 0 0 (loq w i j + 1) (clq w (loq w i j) j) a b ∧ B a = (b : Int) ∧ Td w pl nv S A V F B 0 0 (clq w (loq w i j) j + 1) j b e ∧ B b = -1
      else ∃ a : Nat, (S n = w (loq w i j) ∧ A n = pl (loq w i j) ∧ F n = ((n + 1 : Nat) : Int)) ∧ Td w pl nv S A V F B 0 0 i (loq w i j) (n + 1) a ∧ B (n + 1) = (a : Int) ∧ Td w pl nv S A V F B 0 0 (loq w i j + 1) j a e ∧ B a = -1
    else if w i = 36 then Td w pl nv S A V F B 0 0 (i + 1) (j - 1) n e
    else if w i = 25 ∨ w i = 31 then (S n = (if w i = 25 then 45 else 31) ∧ A n = pl i ∧ F n = ((n + 1 : Nat) : Int)) ∧ Td w pl nv S A V F B 0 0 (i + 1) j (n + 1) e ∧ B (n + 1) = -1
    else if w i = 14 ∨ w i = 15 then (S n = w i ∧ A n = pl i ∧ F n = ((n + 1 : Nat) : Int)) ∧ Td w pl nv S A V F B 1 (-1) (i + 2) (j - 1) (n + 1) e
    else e = n + 1 ∧ S n = w i ∧ A n = pl i ∧ F n = -1 ∧ V n = nv i
  else False
termination_by 2 * (j - i) + c
decreasing_by
  all_goals simp_wf
  all_goals have a1 := lcq_le (w := w) (i := i) (j - i)
  all_goals have a2 := clq_b (w := w) (m := loq w i j) (j := j)
  all_goals first | omega | (have a3 := hm.2; omega)
section TDE
variable {w pl nv S A V F B S' A' V' F' B' : Nat → Int} {i j m n e : Nat} {x : Int}
theorem Td_bin (h : lo w i j = (m : Int)) (h1 : i ≤ m) (h2 : m < j) (h3 : w m ≠ 32) : Td w pl nv S A V F B 0 x i j n e ↔ ∃ a : Nat, (S n = w m ∧ A n = pl m ∧ F n = ((n + 1 : Nat) : Int)) ∧ Td w pl nv S A V F B 0 0 i m (n + 1) a ∧ B (n + 1) = (a : Int) ∧ Td w pl nv S A V F B 0 0 (m + 1) j a e ∧ B a = -1 := by
  obtain ⟨a, b⟩ := lin_of h h1 h2
  rw [Td, dif_pos (by omega), dif_neg (by decide), dif_pos a, b, if_neg h3]
theorem Td_ask {q : Nat} (h : lo w i j = (m : Int)) (h1 : i ≤ m) (h2 : m < j) (h3 : w m = 32) (hq : clq w m j = q) : Td w pl nv S A V F B 0 x i j n e ↔ ∃ a b : Nat, (S n = w m ∧ A n = pl m ∧ F n = ((n + 1 : Nat) : Int)) ∧ Td w pl nv S A V F B 0 0 i m (n + 1) a ∧ B (n + 1) = (a : Int) ∧ Td w pl nv S A V F B 0 0 (m + 1) q a b ∧ B a = (b : Int) ∧ Td w pl nv S A V F B 0 0 (q + 1) j b e ∧ B b = -1 := by
  obtain ⟨a, b⟩ := lin_of h h1 h2
  rw [Td, dif_pos (by omega), dif_neg (by decide), dif_pos a, b, if_pos h3, hq]
theorem Td_par (h : lo w i j = -1) (hij : i < j) (h3 : w i = 36) : Td w pl nv S A V F B 0 x i j n e ↔ Td w pl nv S A V F B 0 0 (i + 1) (j - 1) n e := by
  rw [Td, dif_pos hij, dif_neg (by decide), dif_neg (lin_no h), if_pos h3]
theorem Td_pre (h : lo w i j = -1) (hij : i < j) (h3 : w i = 25 ∨ w i = 31) : Td w pl nv S A V F B 0 x i j n e ↔ (S n = (if w i = 25 then 45 else 31) ∧ A n = pl i ∧ F n = ((n + 1 : Nat) : Int)) ∧ Td w pl nv S A V F B 0 0 (i + 1) j (n + 1) e ∧ B (n + 1) = -1 := by
  rw [Td, dif_pos hij, dif_neg (by decide), dif_neg (lin_no h), if_neg (by omega), if_pos h3]
theorem Td_lst (h : lo w i j = -1) (hij : i < j) (h3 : w i = 14 ∨ w i = 15) : Td w pl nv S A V F B 0 x i j n e ↔ (S n = w i ∧ A n = pl i ∧ F n = ((n + 1 : Nat) : Int)) ∧ Td w pl nv S A V F B 1 (-1) (i + 2) (j - 1) (n + 1) e := by
  rw [Td, dif_pos hij, dif_neg (by decide), dif_neg (lin_no h), if_neg (by omega), if_neg (by omega), if_pos h3]
theorem Td_leaf (h : lo w i j = -1) (hij : i < j) (h3 : w i = 1 ∨ w i = 2 ∨ w i = 12 ∨ w i = 13) : Td w pl nv S A V F B 0 x i j n e ↔ e = n + 1 ∧ S n = w i ∧ A n = pl i ∧ F n = -1 ∧ V n = nv i := by
  rw [Td, dif_pos hij, dif_neg (by decide), dif_neg (lin_no h), if_neg (by omega), if_neg (by omega), if_neg (by omega)]
theorem Td_l1 (hij : i < j) (h : lcq w i (j - i) = 0) : Td w pl nv S A V F B 1 x i j n e ↔ Td w pl nv S A V F B 0 0 i j n e ∧ B n = x := by
  rw [Td, dif_pos hij, dif_pos rfl, dif_pos h]
theorem Td_ln (hij : i < j) (h : lcq w i (j - i) = m - i + 1) (hm : i ≤ m) : Td w pl nv S A V F B 1 x i j n e ↔ ∃ k : Nat, Td w pl nv S A V F B 1 (k : Int) i m n k ∧ Td w pl nv S A V F B 0 0 (m + 1) j k e ∧ B k = x := by
  rw [Td, dif_pos hij, dif_pos rfl, dif_neg (by omega), h, show i + (m - i + 1) - 1 = m by omega, show i + (m - i + 1) = m + 1 by omega]
theorem Td_lt : ∀ (f c i j : Nat), 2 * (j - i) + c ≤ f → Eoc w c i j → ∀ (x : Int) (n e : Nat), Td w pl nv S A V F B c x i j n e → n < e ∧ e ≤ n + (j - i) := by
  refine Eo_ind (P := fun c i j => ∀ (x : Int) (n e : Nat), Td w pl nv S A V F B c x i j n e → n < e ∧ e ≤ n + (j - i)) ?_ ?_ ?_ ?_ ?_ ?_ ?_ ?_
  · intro i m q j h1 h2 h3 h4 h5 h6 h7 h8 _ _ _ i1 i2 i3 x n e ht
    rw [Td_ask h1 h2 h3 h6 h8] at ht
    obtain ⟨a, b, -, t1, -, t2, -, t3, -⟩ := ht
    have := i1 _ _ _ t1
    have := i2 _ _ _ t2
    have := i3 _ _ _ t3
    omega
  · intro i m j h1 h2 h3 h4 _ _ i1 i2 x n e ht
    rw [Td_bin h1 h2 h3 (by omega)] at ht
    obtain ⟨a, -, t1, -, t2, -⟩ := ht
    have := i1 _ _ _ t1
    have := i2 _ _ _ t2
    omega
  · intro i j h1 h2 h3 _ _ i1 x n e ht
    rw [Td_par h1 h2 h3] at ht
    have := i1 _ _ _ ht
    omega
  · intro i j h1 h2 h3 _ i1 x n e ht
    rw [Td_pre h1 h2 h3] at ht
    have := i1 _ _ _ ht.2.1
    omega
  · intro i h1 h3 x n e ht
    rw [Td_leaf h1 (by omega) h3] at ht
    omega
  · intro i j h1 h2 h3 _ _ i1 x n e ht
    rw [Td_lst h1 h2 h3] at ht
    have := i1 _ _ _ ht.2
    omega
  · intro i j h1 h2 _ i1 x n e ht
    rw [Td_l1 h1 h2] at ht
    exact i1 _ _ _ ht.1
  · intro i m j h1 h2 h3 h4 h5 _ _ i1 i2 x n e ht
    rw [Td_ln h1 h4 h2] at ht
    obtain ⟨k, t1, t2, -⟩ := ht
    have := i1 _ _ _ t1
    have := i2 _ _ _ t2
    omega
theorem Td.lt {c : Nat} (h : Td w pl nv S A V F B c x i j n e) (he : Eoc w c i j) : n < e ∧ e ≤ n + (j - i) := Td_lt _ c i j (Nat.le_refl _) he x n e h
/-- the same nodes, the same tree -/
theorem Td_cg : ∀ (f c i j : Nat), 2 * (j - i) + c ≤ f → Eoc w c i j → ∀ (x : Int) (n e : Nat), Td w pl nv S A V F B c x i j n e → (∀ k, n ≤ k → k < e → S' k = S k ∧ A' k = A k ∧ V' k = V k ∧ F' k = F k) → (∀ k, n < k → k < e → B' k = B k) → (c = 1 → B' n = B n) → Td w pl nv S' A' V' F' B' c x i j n e := by
  refine Eo_ind (P := fun c i j => ∀ (x : Int) (n e : Nat), Td w pl nv S A V F B c x i j n e → (∀ k, n ≤ k → k < e → S' k = S k ∧ A' k = A k ∧ V' k = V k ∧ F' k = F k) → (∀ k, n < k → k < e → B' k = B k) → (c = 1 → B' n = B n) → Td w pl nv S' A' V' F' B' c x i j n e) ?_ ?_ ?_ ?_ ?_ ?_ ?_ ?_
  · intro i m q j h1 h2 h3 h4 h5 h6 h7 h8 o1 o2 o3 i1 i2 i3 x n e ht g1 g2 g3
    rw [Td_ask h1 h2 h3 h6 h8] at ht ⊢
    obtain ⟨a, b, ⟨s1, s2, s3⟩, t1, b1, t2, b2, t3, b3⟩ := ht
    have l1 := t1.lt (Or.inl ⟨rfl, o1⟩)
    have l2 := t2.lt (Or.inl ⟨rfl, o2⟩)
    have l3 := t3.lt (Or.inl ⟨rfl, o3⟩)
    obtain ⟨k1, k2, -, k4⟩ := g1 n (Nat.le_refl _) (by omega)
    exact ⟨a, b, ⟨by rw [k1]; exact s1, by rw [k2]; exact s2, by rw [k4]; exact s3⟩, i1 _ _ _ t1 (fun k u v => g1 k (by omega) (by omega)) (fun k u v => g2 k (by omega) (by omega)) (fun u => absurd u (by decide)), by rw [g2 _ (by omega) (by omega)]; exact b1, i2 _ _ _ t2 (fun k u v => g1 k (by omega) (by omega)) (fun k u v => g2 k (by omega) (by omega)) (fun u => absurd u (by decide)), by rw [g2 _ (by omega) (by omega)]; exact b2, i3 _ _ _ t3 (fun k u v => g1 k (by omega) (by omega)) (fun k u v => g2 k (by omega) (by omega)) (fun u => absurd u (by decide)), by rw [g2 _ (by omega) (by omega)]; exact b3⟩
  · intro i m j h1 h2 h3 h4 o1 o2 i1 i2 x n e ht g1 g2 g3
    rw [Td_bin h1 h2 h3 (by omega)] at ht ⊢
    obtain ⟨a, ⟨s1, s2, s3⟩, t1, b1, t2, b2⟩ := ht
    have l1 := t1.lt (Or.inl ⟨rfl, o1⟩)
    have l2 := t2.lt (Or.inl ⟨rfl, o2⟩)
    obtain ⟨k1, k2, -, k4⟩ := g1 n (Nat.le_refl _) (by omega)
    exact ⟨a, ⟨by rw [k1]; exact s1, by rw [k2]; exact s2, by rw [k4]; exact s3⟩, i1 _ _ _ t1 (fun k u v => g1 k (by omega) (by omega)) (fun k u v => g2 k (by omega) (by omega)) (fun u => absurd u (by decide)), by rw [g2 _ (by omega) (by omega)]; exact b1, i2 _ _ _ t2 (fun k u v => g1 k (by omega) (by omega)) (fun k u v => g2 k (by omega) (by omega)) (fun u => absurd u (by decide)), by rw [g2 _ (by omega) (by omega)]; exact b2⟩
  · intro i j h1 h2 h3 _ _ i1 x n e ht g1 g2 g3
    rw [Td_par h1 h2 h3] at ht ⊢
    exact i1 _ _ _ ht g1 g2 (fun u => absurd u (by decide))
  · intro i j h1 h2 h3 o1 i1 x n e ht g1 g2 g3
    rw [Td_pre h1 h2 h3] at ht ⊢
    obtain ⟨⟨s1, s2, s3⟩, t1, b1⟩ := ht
    have l1 := t1.lt (Or.inl ⟨rfl, o1⟩)
    obtain ⟨k1, k2, -, k4⟩ := g1 n (Nat.le_refl _) (by omega)
    exact ⟨⟨by rw [k1]; exact s1, by rw [k2]; exact s2, by rw [k4]; exact s3⟩, i1 _ _ _ t1 (fun k u v => g1 k (by omega) (by omega)) (fun k u v => g2 k (by omega) (by omega)) (fun u => absurd u (by decide)), by rw [g2 _ (by omega) (by omega)]; exact b1⟩
  · intro i h1 h3 x n e ht g1 g2 g3
    rw [Td_leaf h1 (by omega) h3] at ht ⊢
    obtain ⟨rfl, s1, s2, s3, s4⟩ := ht
    obtain ⟨k1, k2, k3, k4⟩ := g1 n (Nat.le_refl _) (by omega)
    exact ⟨rfl, by rw [k1]; exact s1, by rw [k2]; exact s2, by rw [k4]; exact s3, by rw [k3]; exact s4⟩
  · intro i j h1 h2 h3 _ o1 i1 x n e ht g1 g2 g3
    rw [Td_lst h1 h2 h3] at ht ⊢
    obtain ⟨⟨s1, s2, s3⟩, t1⟩ := ht
    have l1 := t1.lt (Or.inr ⟨rfl, o1⟩)
    obtain ⟨k1, k2, -, k4⟩ := g1 n (Nat.le_refl _) (by omega)
    exact ⟨⟨by rw [k1]; exact s1, by rw [k2]; exact s2, by rw [k4]; exact s3⟩, i1 _ _ _ t1 (fun k u v => g1 k (by omega) (by omega)) (fun k u v => g2 k (by omega) (by omega)) (fun _ => g2 _ (by omega) (by omega))⟩
  · intro i j h1 h2 _ i1 x n e ht g1 g2 g3
    rw [Td_l1 h1 h2] at ht ⊢
    exact ⟨i1 _ _ _ ht.1 g1 g2 (fun u => absurd u (by decide)), by rw [g3 rfl]; exact ht.2⟩
  · intro i m j h1 h2 h3 h4 h5 o1 o2 i1 i2 x n e ht g1 g2 g3
    rw [Td_ln h1 h4 h2] at ht ⊢
    obtain ⟨k, t1, t2, b1⟩ := ht
    have l1 := t1.lt (Or.inr ⟨rfl, o1⟩)
    have l2 := t2.lt (Or.inl ⟨rfl, o2⟩)
    exact ⟨k, i1 _ _ _ t1 (fun k u v => g1 k (by omega) (by omega)) (fun k u v => g2 k (by omega) (by omega)) (fun _ => g3 rfl), i2 _ _ _ t2 (fun k u v => g1 k (by omega) (by omega)) (fun k u v => g2 k (by omega) (by omega)) (fun u => absurd u (by decide)), by rw [g2 _ (by omega) (by omega)]; exact b1⟩
theorem Td.cg {c : Nat} (h : Td w pl nv S A V F B c x i j n e) (he : Eoc w c i j) (g1 : ∀ k, n ≤ k → k < e → S' k = S k ∧ A' k = A k ∧ V' k = V k ∧ F' k = F k) (g2 : ∀ k, n < k → k < e → B' k = B k) (g3 : c = 1 → B' n = B n) : Td w pl nv S' A' V' F' B' c x i j n e := Td_cg _ c i j (Nat.le_refl _) he x n e h g1 g2 g3
/-- brothers, one for each of a list of parts; the last one's brother is x -/
def Tbq (w pl nv S A V F B : Nat → Int) (x : Int) : List (Nat × Nat) → Nat → Nat → Prop
  | [], _, _ => False
  | [(i, j)], n, e => Td w pl nv S A V F B 0 0 i j n e ∧ B n = x
  | (i, j) :: r :: rs, n, e => ∃ m : Nat, Td w pl nv S A V F B 0 0 i j n m ∧ B n = (m : Int) ∧ Tbq w pl nv S A V F B x (r :: rs) m e
/-- brothers by their last one -/
theorem Tbq.snoc {i' j' : Nat} : ∀ (rs : List (Nat × Nat)) {n e : Nat}, rs ≠ [] → Tbq w pl nv S A V F B x (rs ++ [(i', j')]) n e → ∃ m : Nat, Tbq w pl nv S A V F B (m : Int) rs n m ∧ Td w pl nv S A V F B 0 0 i' j' m e ∧ B m = x
  | [], _, _, h, _ => absurd rfl h
  | [(i, j)], n, e, _, h => by
    obtain ⟨m, h1, h2, h3⟩ := h
    exact ⟨m, ⟨h1, h2⟩, h3.1, h3.2⟩
  | (i, j) :: r :: rs, n, e, _, h => by
    obtain ⟨m, h1, h2, h3⟩ := h
    obtain ⟨k, k1, k2, k3⟩ := Tbq.snoc (r :: rs) (by simp) h3
    exact ⟨k, ⟨m, h1, h2, k1⟩, k2, k3⟩
/-- the parts of a list, by its last comma -/
def JM (w : Nat → Int) : Nat → Nat → Nat → List (Nat × Nat) → Prop
  | 0, _, _, _ => False
  | f + 1, i, j, rs => (rs = [(i, j)] ∧ Eo w 6 i j) ∨ ∃ (m : Nat) (r2 : List (Nat × Nat)), w m = 35 ∧ Eo w 7 i m ∧ Eo w 6 (m + 1) j ∧ rs = r2 ++ [(m + 1, j)] ∧ JM w f i m r2
theorem JM.ne : ∀ {f i j : Nat} {rs : List (Nat × Nat)}, JM w f i j rs → rs ≠ []
  | 0, _, _, _, h => h.elim
  | f + 1, i, j, rs, h => by
    rcases h with ⟨h, -⟩ | ⟨m, r2, -, -, -, h, -⟩
    · rw [h]; simp
    · rw [h]; simp
theorem JM.all : ∀ {f i j : Nat} {rs : List (Nat × Nat)}, JM w f i j rs → (∀ i' j', (i', j') ∈ rs → Eo w 6 i' j' ∧ j' ≤ j ∧ j' - i' ≤ j - i)
  | 0, _, _, _, h => h.elim
  | f + 1, i, j, rs, h => by
    intro i' j' q
    rcases h with ⟨h, he⟩ | ⟨m, r2, h1, h2, h3, h4, h5⟩
    · rw [h] at q
      obtain ⟨q1, q2⟩ := Prod.mk.inj (List.mem_singleton.1 q)
      subst q1 q2
      exact ⟨he, Nat.le_refl _, Nat.le_refl _⟩
    · have p2 := h2.pr.1
      have p3 := h3.pr.1
      rw [h4] at q
      rcases List.mem_append.1 q with q | q
      · have := JM.all h5 i' j' q
        exact ⟨this.1, by omega, by omega⟩
      · obtain ⟨q1, q2⟩ := Prod.mk.inj (List.mem_singleton.1 q)
        subst q1 q2
        exact ⟨h3, Nat.le_refl _, by omega⟩
theorem tb_td : ∀ {f i j : Nat} {rs : List (Nat × Nat)} {x : Int} {n e : Nat}, JM w f i j rs → Tbq w pl nv S A V F B x rs n e → Td w pl nv S A V F B 1 x i j n e
  | 0, _, _, _, _, _, _, h, _ => h.elim
  | f + 1, i, j, rs, x, n, e, h, t => by
    rcases h with ⟨h, he⟩ | ⟨m, r2, h1, h2, h3, h4, h5⟩
    · subst h
      rw [Td_l1 he.pr.1 (lcq_eo he (by omega))]
      exact t
    · subst h4
      have p2 := h2.pr.1
      have p3 := h3.pr.1
      obtain ⟨k, k1, k2, k3⟩ := Tbq.snoc r2 h5.ne t
      rw [Td_ln (m := m) (by omega) (lcq_7 h2 h1 h3) (by omega)]
      exact ⟨k, tb_td h5 k1, k2, k3⟩
end TDE
