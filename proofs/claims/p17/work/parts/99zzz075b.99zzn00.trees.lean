section
/-! The reference's tree of a rule: pure. S sorts, A places, V values, F first parts, B brothers of nodes. -/
/-- the nodes n to e - 1 are the tree of the words i to j - 1; c = 1: brothers, one for each part of a list, the last one's brother is x -/
def Td (w pl nv S A V F B : Nat → Int) (c : Nat) (x : Int) (i j n e : Nat) : Prop :=
  haveI := Classical.propDecidable (lin w i j)
  if hij : i < j then
    if hc : c = 1 then
      if hp : lcq w i (j - i) = 0 then Td w pl nv S A V F B 0 0 i j n e ∧ B n = x
      else ∃ m : Nat, Td w pl nv S A V F B 1 (m : Int) i (i + lcq w i (j - i) - 1) n m ∧ Td w pl nv S A V F B 0 0 (i + lcq w i (j - i)) j m e ∧ B m = x
    else if hm : lin w i j then
      if w (loq w i j) = 32 then ∃ a b : Nat, (S n = w (loq w i j) ∧ A n = pl (loq w i j) ∧ F n = ((n + 1 : Nat) : Int)) ∧ Td w pl nv S A V F B 0 0 i (loq w i j) (n + 1) a ∧ B (n + 1) = (a : Int) ∧ Td w pl nv S A V F B 0 0 (loq w i j + 1) (clq w (loq w i j) j) a b ∧ B a = (b : Int) ∧ Td w pl nv S A V F B 0 0 (clq w (loq w i j) j + 1) j b e ∧ B b = -1
      else ∃ a : Nat, (S n = w (loq w i j) ∧ A n = pl (loq w i j) ∧ F n = ((n + 1 : Nat) : Int)) ∧ Td w pl nv S A V F B 0 0 i (loq w i j) (n + 1) a ∧ B (n + 1) = (a : Int) ∧ Td w pl nv S A V F B 0 0 (loq w i j + 1) j a e ∧ B a = -1
    else if w i = 36 then Td w pl nv S A V F B 0 0 (i + 1) (j - 1) n e
    else if w i = 25 ∨ w i = 31 then (S n = (if w i = 25 then 45 else 31) ∧ A n = pl i ∧ F n = ((n + 1 : Nat) : Int)) ∧ Td w pl nv S A V F B 0 0 (i + 1) j (n + 1) e ∧ B (n + 1) = -1
    else if w i = 14 ∨ w i = 15 then (S n = w i ∧ A n = pl i ∧ F n = ((n + 1 : Nat) : Int)) ∧ Td w pl nv S A V F B 1 (-1) (i + 2) (j - 1) (n + 1) e
    else e = n + 1 ∧ S n = w i ∧ A n = pl i ∧ F n = -1 ∧ V n = nv i
  else False
termination_by 2 * (j - i) + c
decreasing_by
  all_goals simp_wf
  all_goals have a1 := lcq_le (w := w) (i := i) (j - i)
  all_goals have a2 := clq_b (w := w) (m := loq w i j) (j := j)
  all_goals first | omega | (have a3 := hm.2; omega)
section TDE
variable {w pl nv S A V F B S' A' V' F' B' : Nat → Int} {i j m n e : Nat} {x : Int}
theorem Td_bin (h : lo w i j = (m : Int)) (h1 : i ≤ m) (h2 : m < j) (h3 : w m ≠ 32) : Td w pl nv S A V F B 0 x i j n e ↔ ∃ a : Nat, (S n = w m ∧ A n = pl m ∧ F n = ((n + 1 : Nat) : Int)) ∧ Td w pl nv S A V F B 0 0 i m (n + 1) a ∧ B (n + 1) = (a : Int) ∧ Td w pl nv S A V F B 0 0 (m + 1) j a e ∧ B a = -1 := by
  obtain ⟨a, b⟩ := lin_of h h1 h2
  rw [Td, dif_pos (by omega), dif_neg (by decide), dif_pos a, b, if_neg h3]
theorem Td_ask {q : Nat} (h : lo w i j = (m : Int)) (h1 : i ≤ m) (h2 : m < j) (h3 : w m = 32) (hq : clq w m j = q) : Td w pl nv S A V F B 0 x i j n e ↔ ∃ a b : Nat, (S n = w m ∧ A n = pl m ∧ F n = ((n + 1 : Nat) : Int)) ∧ Td w pl nv S A V F B 0 0 i m (n + 1) a ∧ B (n + 1) = (a : Int) ∧ Td w pl nv S A V F B 0 0 (m + 1) q a b ∧ B a = (b : Int) ∧ Td w pl nv S A V F B 0 0 (q + 1) j b e ∧ B b = -1 := by
  obtain ⟨a, b⟩ := lin_of h h1 h2
  rw [Td, dif_pos (by omega), dif_neg (by decide), dif_pos a, b, if_pos h3, hq]
theorem Td_par (h : lo w i j = -1) (hij : i < j) (h3 : w i = 36) : Td w pl nv S A V F B 0 x i j n e ↔ Td w pl nv S A V F B 0 0 (i + 1) (j - 1) n e := by
  rw [Td, dif_pos hij, dif_neg (by decide), dif_neg (lin_no h), if_pos h3]
theorem Td_pre (h : lo w i j = -1) (hij : i < j) (h3 : w i = 25 ∨ w i = 31) : Td w pl nv S A V F B 0 x i j n e ↔ (S n = (if w i = 25 then 45 else 31) ∧ A n = pl i ∧ F n = ((n + 1 : Nat) : Int)) ∧ Td w pl nv S A V F B 0 0 (i + 1) j (n + 1) e ∧ B (n + 1) = -1 := by
  rw [Td, dif_pos hij, dif_neg (by decide), dif_neg (lin_no h), if_neg (by omega), if_pos h3]
theorem Td_lst (h : lo w i j = -1) (hij : i < j) (h3 : w i = 14 ∨ w i = 15) : Td w pl nv S A V F B 0 x i j n e ↔ (S n = w i ∧ A n = pl i ∧ F n = ((n + 1 : Nat) : Int)) ∧ Td w pl nv S A V F B 1 (-1) (i + 2) (j - 1) (n + 1) e := by
  rw [Td, dif_pos hij, dif_neg (by decide), dif_neg (lin_no h), if_neg (by omega), if_neg (by omega), if_pos h3]
theorem Td_leaf (h : lo w i j = -1) (hij : i < j) (h3 : w i = 1 ∨ w i = 2 ∨ w i = 12 ∨ w i = 13) : Td w pl nv S A V F B 0 x i j n e ↔ e = n + 1 ∧ S n = w i ∧ A n = pl i ∧ F n = -1 ∧ V n = nv i := by
  rw [Td, dif_pos hij, dif_neg (by decide), dif_neg (lin_no h), if_neg (by omega), if_neg (by omega), if_neg (by omega)]
theorem Td_l1 (hij : i < j) (h : lcq w i (j - i) = 0) : Td w pl nv S A V F B 1 x i j n e ↔ Td w pl nv S A V F B 0 0 i j n e ∧ B n = x := by
  rw [Td, dif_pos hij, dif_pos rfl, dif_pos h]
theorem Td_ln (hij : i < j) (h : lcq w i (j - i) = m - i + 1) (hm : i ≤ m) : Td w pl nv S A V F B 1 x i j n e ↔ ∃ k : Nat, Td w pl nv S A V F B 1 (k : Int) i m n k ∧ Td w pl nv S A V F B 0 0 (m + 1) j k e ∧ B k = x := by
  rw [Td, dif_pos hij, dif_pos rfl, dif_neg (by omega), h, show i + (m - i + 1) - 1 = m by first | rfl | omega, show i + (m - i + 1) = m + 1 by first | rfl | omega]
theorem Td_lt : ∀ (f c i j : Nat), 2 * (j - i) + c ≤ f → Eoc w c i j → ∀ (x : Int) (n e : Nat), Td w pl nv S A V F B c x i j n e → n < e ∧ e ≤ n + (j - i) := by
  refine Eo_ind (P := fun c i j => ∀ (x : Int) (n e : Nat), Td w pl nv S A V F B c x i j n e → n < e ∧ e ≤ n + (j - i)) ?_ ?_ ?_ ?_ ?_ ?_ ?_ ?_
  · intro i m q j h1 h2 h3 h4 h5 h6 h7 h8 _ _ _ i1 i2 i3 x n e ht
    rw [Td_ask h1 h2 h3 h6 h8] at ht
    obtain ⟨a, b, -, t1, -, t2, -, t3, -⟩ := ht
    have := i1 _ _ _ t1
    have := i2 _ _ _ t2
    have := i3 _ _ _ t3
    omega
  · intro i m j h1 h2 h3 h4 _ _ i1 i2 x n e ht
    rw [Td_bin h1 h2 h3 (by omega)] at ht
    obtain ⟨a, -, t1, -, t2, -⟩ := ht
    have := i1 _ _ _ t1
    have := i2 _ _ _ t2
    omega
  · intro i j h1 h2 h3 _ _ i1 x n e ht
    rw [Td_par h1 h2 h3] at ht
    have := i1 _ _ _ ht
    omega
  · intro i j h1 h2 h3 _ i1 x n e ht
    rw [Td_pre h1 h2 h3] at ht
    have := i1 _ _ _ ht.2.1
    omega
  · intro i h1 h3 x n e ht
    rw [Td_leaf h1 (by omega) h3] at ht
    omega
  · intro i j h1 h2 h3 _ _ i1 x n e ht
    rw [Td_lst h1 h2 h3] at ht
    have := i1 _ _ _ ht.2
    omega
  · intro i j h1 h2 _ i1 x n e ht
    rw [Td_l1 h1 h2] at ht
    exact i1 _ _ _ ht.1
  · intro i m j h1 h2 h3 h4 h5 _ _ i1 i2 x n e ht
    rw [Td_ln h1 h4 h2] at ht
    obtain ⟨k, t1, t2, -⟩ := ht
    have := i1 _ _ _ t1
    have := i2 _ _ _ t2
    omega
theorem Td.lt {c : Nat} (h : Td w pl nv S A V F B c x i j n e) (he : Eoc w c i j) : n < e ∧ e ≤ n + (j - i) := Td_lt _ c i j (Nat.le_refl _) he x n e h
/-- the same nodes, the same tree -/
theorem Td_cg : ∀ (f c i j : Nat), 2 * (j - i) + c ≤ f → Eoc w c i j → ∀ (x : Int) (n e : Nat), Td w pl nv S A V F B c x i j n e → (∀ k, n ≤ k → k < e → S' k = S k ∧ A' k = A k ∧ V' k = V k ∧ F' k = F k) → (∀ k, n < k → k < e → B' k = B k) → (c = 1 → B' n = B n) → Td w pl nv S' A' V' F' B' c x i j n e := by
  refine Eo_ind (P := fun c i j => ∀ (x : Int) (n e : Nat), Td w pl nv S A V F B c x i j n e → (∀ k, n ≤ k → k < e → S' k = S k ∧ A' k = A k ∧ V' k = V k ∧ F' k = F k) → (∀ k, n < k → k < e → B' k = B k) → (c = 1 → B' n = B n) → Td w pl nv S' A' V' F' B' c x i j n e) ?_ ?_ ?_ ?_ ?_ ?_ ?_ ?_
  · intro i m q j h1 h2 h3 h4 h5 h6 h7 h8 o1 o2 o3 i1 i2 i3 x n e ht g1 g2 g3
    rw [Td_ask h1 h2 h3 h6 h8] at ht ⊢
    obtain ⟨a, b, ⟨s1, s2, s3⟩, t1, b1, t2, b2, t3, b3⟩ := ht
    have l1 := t1.lt (Or.inl ⟨rfl, o1⟩)
    have l2 := t2.lt (Or.inl ⟨rfl, o2⟩)
    have l3 := t3.lt (Or.inl ⟨rfl, o3⟩)
    obtain ⟨k1, k2, -, k4⟩ := g1 n (Nat.le_refl _) (by omega)
    exact ⟨a, b, ⟨by rw [k1]; exact s1, by rw [k2]; exact s2, by rw [k4]; exact s3⟩, i1 _ _ _ t1 (fun k u v => g1 k (by omega) (by omega)) (fun k u v => g2 k (by omega) (by omega)) (fun u => absurd u (by decide)), by rw [g2 _ (by omega) (by omega)]; exact b1, i2 _ _ _ t2 (fun k u v => g1 k (by omega) (by omega)) (fun k u v => g2 k (by omega) (by omega)) (fun u => absurd u (by decide)), by rw [g2 _ (by omega) (by omega)]; exact b2, i3 _ _ _ t3 (fun k u v => g1 k (by omega) (by omega)) (fun k u v => g2 k (by omega) (by omega)) (fun u => absurd u (by decide)), by rw [g2 _ (by omega) (by omega)]; exact b3⟩
  · intro i m j h1 h2 h3 h4 o1 o2 i1 i2 x n e ht g1 g2 g3
    rw [Td_bin h1 h2 h3 (by omega)] at ht ⊢
    obtain ⟨a, ⟨s1, s2, s3⟩, t1, b1, t2, b2⟩ := ht
    have l1 := t1.lt (Or.inl ⟨rfl, o1⟩)
    have l2 := t2.lt (Or.inl ⟨rfl, o2⟩)
    obtain ⟨k1, k2, -, k4⟩ := g1 n (Nat.le_refl _) (by omega)
    exact ⟨a, ⟨by rw [k1]; exact s1, by rw [k2]; exact s2, by rw [k4]; exact s3⟩, i1 _ _ _ t1 (fun k u v => g1 k (by omega) (by omega)) (fun k u v => g2 k (by omega) (by omega)) (fun u => absurd u (by decide)), by rw [g2 _ (by omega) (by omega)]; exact b1, i2 _ _ _ t2 (fun k u v => g1 k (by omega) (by omega)) (fun k u v => g2 k (by omega) (by omega)) (fun u => absurd u (by decide)), by rw [g2 _ (by omega) (by omega)]; exact b2⟩
  · intro i j h1 h2 h3 _ _ i1 x n e ht g1 g2 g3
    rw [Td_par h1 h2 h3] at ht ⊢
    exact i1 _ _ _ ht g1 g2 (fun u => absurd u (by decide))
  · intro i j h1 h2 h3 o1 i1 x n e ht g1 g2 g3
    rw [Td_pre h1 h2 h3] at ht ⊢
    obtain ⟨⟨s1, s2, s3⟩, t1, b1⟩ := ht
    have l1 := t1.lt (Or.inl ⟨rfl, o1⟩)
    obtain ⟨k1, k2, -, k4⟩ := g1 n (Nat.le_refl _) (by omega)
    exact ⟨⟨by rw [k1]; exact s1, by rw [k2]; exact s2, by rw [k4]; exact s3⟩, i1 _ _ _ t1 (fun k u v => g1 k (by omega) (by omega)) (fun k u v => g2 k (by omega) (by omega)) (fun u => absurd u (by decide)), by rw [g2 _ (by omega) (by omega)]; exact b1⟩
  · intro i h1 h3 x n e ht g1 g2 g3
    rw [Td_leaf h1 (by omega) h3] at ht ⊢
    obtain ⟨rfl, s1, s2, s3, s4⟩ := ht
    obtain ⟨k1, k2, k3, k4⟩ := g1 n (Nat.le_refl _) (by omega)
    exact ⟨rfl, by rw [k1]; exact s1, by rw [k2]; exact s2, by rw [k4]; exact s3, by rw [k3]; exact s4⟩
  · intro i j h1 h2 h3 _ o1 i1 x n e ht g1 g2 g3
    rw [Td_lst h1 h2 h3] at ht ⊢
    obtain ⟨⟨s1, s2, s3⟩, t1⟩ := ht
    have l1 := t1.lt (Or.inr ⟨rfl, o1⟩)
    obtain ⟨k1, k2, -, k4⟩ := g1 n (Nat.le_refl _) (by omega)
    exact ⟨⟨by rw [k1]; exact s1, by rw [k2]; exact s2, by rw [k4]; exact s3⟩, i1 _ _ _ t1 (fun k u v => g1 k (by omega) (by omega)) (fun k u v => g2 k (by omega) (by omega)) (fun _ => g2 _ (by omega) (by omega))⟩
  · intro i j h1 h2 _ i1 x n e ht g1 g2 g3
    rw [Td_l1 h1 h2] at ht ⊢
    exact ⟨i1 _ _ _ ht.1 g1 g2 (fun u => absurd u (by decide)), by rw [g3 rfl]; exact ht.2⟩
  · intro i m j h1 h2 h3 h4 h5 o1 o2 i1 i2 x n e ht g1 g2 g3
    rw [Td_ln h1 h4 h2] at ht ⊢
    obtain ⟨k, t1, t2, b1⟩ := ht
    have l1 := t1.lt (Or.inr ⟨rfl, o1⟩)
    have l2 := t2.lt (Or.inl ⟨rfl, o2⟩)
    exact ⟨k, i1 _ _ _ t1 (fun k u v => g1 k (by omega) (by omega)) (fun k u v => g2 k (by omega) (by omega)) (fun _ => g3 rfl), i2 _ _ _ t2 (fun k u v => g1 k (by omega) (by omega)) (fun k u v => g2 k (by omega) (by omega)) (fun u => absurd u (by decide)), by rw [g2 _ (by omega) (by omega)]; exact b1⟩
theorem Td.cg {c : Nat} (h : Td w pl nv S A V F B c x i j n e) (he : Eoc w c i j) (g1 : ∀ k, n ≤ k → k < e → S' k = S k ∧ A' k = A k ∧ V' k = V k ∧ F' k = F k) (g2 : ∀ k, n < k → k < e → B' k = B k) (g3 : c = 1 → B' n = B n) : Td w pl nv S' A' V' F' B' c x i j n e := Td_cg _ c i j (Nat.le_refl _) he x n e h g1 g2 g3
/-- brothers, one for each of a list of parts; the last one's brother is x -/
def Tbq (w pl nv S A V F B : Nat → Int) (x : Int) : List (Nat × Nat) → Nat → Nat → Prop
  | [], _, _ => False
  | [(i, j)], n, e => Td w pl nv S A V F B 0 0 i j n e ∧ B n = x
  | (i, j) :: r :: rs, n, e => ∃ m : Nat, Td w pl nv S A V F B 0 0 i j n m ∧ B n = (m : Int) ∧ Tbq w pl nv S A V F B x (r :: rs) m e
/-- brothers by their last one -/
theorem Tbq.snoc {i' j' : Nat} : ∀ (rs : List (Nat × Nat)) {n e : Nat}, rs ≠ [] → Tbq w pl nv S A V F B x (rs ++ [(i', j')]) n e → ∃ m : Nat, Tbq w pl nv S A V F B (m : Int) rs n m ∧ Td w pl nv S A V F B 0 0 i' j' m e ∧ B m = x
  | [], _, _, h, _ => absurd rfl h
  | [(i, j)], n, e, _, h => by
    obtain ⟨m, h1, h2, h3⟩ := h
    exact ⟨m, ⟨h1, h2⟩, h3.1, h3.2⟩
  | (i, j) :: r :: rs, n, e, _, h => by
    obtain ⟨m, h1, h2, h3⟩ := h
    obtain ⟨k, k1, k2, k3⟩ := Tbq.snoc (r :: rs) (by simp) h3
    exact ⟨k, ⟨m, h1, h2, k1⟩, k2, k3⟩
/-- the parts of a list, by its last comma -/
def JM (w : Nat → Int) : Nat → Nat → Nat → List (Nat × Nat) → Prop
  | 0, _, _, _ => False
  | f + 1, i, j, rs => (rs = [(i, j)] ∧ Eo w 6 i j) ∨ ∃ (m : Nat) (r2 : List (Nat × Nat)), w m = 35 ∧ Eo w 7 i m ∧ Eo w 6 (m + 1) j ∧ rs = r2 ++ [(m + 1, j)] ∧ JM w f i m r2
theorem JM.ne : ∀ {f i j : Nat} {rs : List (Nat × Nat)}, JM w f i j rs → rs ≠ []
  | 0, _, _, _, h => h.elim
  | f + 1, i, j, rs, h => by
    rcases h with ⟨h, -⟩ | ⟨m, r2, -, -, -, h, -⟩
    · rw [h]; simp
    · rw [h]; simp
theorem JM.all : ∀ {f i j : Nat} {rs : List (Nat × Nat)}, JM w f i j rs → (∀ i' j', (i', j') ∈ rs → Eo w 6 i' j' ∧ j' ≤ j ∧ j' - i' ≤ j - i)
  | 0, _, _, _, h => h.elim
  | f + 1, i, j, rs, h => by
    intro i' j' q
    rcases h with ⟨h, he⟩ | ⟨m, r2, h1, h2, h3, h4, h5⟩
    · rw [h] at q
      obtain ⟨q1, q2⟩ := Prod.mk.inj (List.mem_singleton.1 q)
      subst q1 q2
      exact ⟨he, Nat.le_refl _, Nat.le_refl _⟩
    · have p2 := h2.pr.1
      have p3 := h3.pr.1
      rw [h4] at q
      rcases List.mem_append.1 q with q | q
      · have := JM.all h5 i' j' q
        exact ⟨this.1, by omega, by omega⟩
      · obtain ⟨q1, q2⟩ := Prod.mk.inj (List.mem_singleton.1 q)
        subst q1 q2
        exact ⟨h3, Nat.le_refl _, by omega⟩
theorem tb_td : ∀ {f i j : Nat} {rs : List (Nat × Nat)} {x : Int} {n e : Nat}, JM w f i j rs → Tbq w pl nv S A V F B x rs n e → Td w pl nv S A V F B 1 x i j n e
  | 0, _, _, _, _, _, _, h, _ => h.elim
  | f + 1, i, j, rs, x, n, e, h, t => by
    rcases h with ⟨h, he⟩ | ⟨m, r2, h1, h2, h3, h4, h5⟩
    · subst h
      rw [Td_l1 he.pr.1 (lcq_eo he (by omega))]
      exact t
    · subst h4
      have p2 := h2.pr.1
      have p3 := h3.pr.1
      obtain ⟨k, k1, k2, k3⟩ := Tbq.snoc r2 h5.ne t
      rw [Td_ln (m := m) (by omega) (lcq_7 h2 h1 h3) (by omega)]
      exact ⟨k, tb_td h5 k1, k2, k3⟩
end TDE
end
section
/-! The reference: what is known of a game's rules, variables and commands. -/
/-- a value of a kind -/
def vr9 (t A B : Int) : vrs := (0, A, if t = 1 then 1 else B)
abbrev pm (M : mM) (g : Nat) : Nat → Int := nt M (g + 3)
/-- where the formulas' trees end; the text -/
abbrev Eg9 : Type := (Nat → Nat) × gW9
/-- numbers, and how names are resolved; r the names that are known -/
def Nvq (ww nq : Nat → Int) (sm : Nat → Nat → Prop) (r : List nm9) (nv : Nat → Int) : Prop := (∀ k, ww k = 2 → nv k = nq k) ∧ ∀ k, ww k = 1 → ∀ l1 e l2, r = l1 ++ e :: l2 → sm e.1 k → (∀ e', e' ∈ l1 → ¬ sm e'.1 k) → nv k = if e.2.1 = 3 then 100 + ((vcn l1 : Nat) : Int) else ((rcn l1 : Nat) : Int)
/-- other names, another game, the same words -/
def gWs (γ : gW9) (nms : List nm9) (gm : gm9) : gW9 := (γ.1, γ.2.1, γ.2.2.1, γ.2.2.2.1, γ.2.2.2.2.1, nms, gm)
section DF
variable {a g R W C Z T R' W' T' : Nat} {M M' : mM} {E E' : Nat → Nat}
/-- n is the root of a rule of type t, whose formulas lie before it -/
def Rt (M : mM) (g R W T : Nat) (E : Nat → Nat) (n t : Int) : Prop := ∃ n' b f e : Nat, n = (n' : Int) ∧ b ≤ R ∧ (∀ r : Nat, r < b → mI M (g + 13) r ≠ 0 → E r ≤ n') ∧ Ty (nme True M g b W) (tn M g) M g f 0 n' e (fun _ => t) ∧ e ≤ T
/-- the constants' values -/
def Cn (M : mM) (g R : Nat) : Prop := ∀ r : Nat, r < R → mI M (g + 13) r = 0 → vok (tn M g r) (mL M (g + 16) r) (mL M (g + 17) r)
/-- the variables' ranges -/
def Vr (M : mM) (g W : Nat) : Prop := ∀ v : Nat, v < W → (mI M (g + 18) v ≠ 0 → mI M (g + 19) v = 0 ∧ mI M (g + 20) v = 1) ∧ mI M (g + 19) v ≤ mI M (g + 21) v ∧ mI M (g + 21) v ≤ mI M (g + 20) v ∧ -1000000000 < mI M (g + 19) v ∧ mI M (g + 20) v < 1000000000 ∧ (mI M (g + 18) v = 0 ∨ mI M (g + 18) v = 1)
/-- a branch -/
def Bc (M : mM) (g R W T : Nat) (E : Nat → Nat) (Z x : Nat) : Prop := Rt M g R W T E (mI M (g + 26) x) 0 ∧ 0 ≤ mI M (g + 28) x ∧ 0 ≤ mI M (g + 29) x ∧ mI M (g + 28) x + mI M (g + 29) x ≤ Z
/-- a command -/
def Cc (M : mM) (g R W T : Nat) (E : Nat → Nat) (Z c : Nat) : Prop := Rt M g R W T E (mI M (g + 24) c) 1 ∧ 0 ≤ mI M (g + 25) c ∧ mI M (g + 25) c ≤ 8 ∧ ∀ b : Nat, (b : Int) < mI M (g + 25) c → Bc M g R W T E Z (8 * c + b)
/-- n is the root of the rule of the words i to j - 1 -/
def Rtw (γ : gW9) (M : mM) (g R W T : Nat) (Er : Nat → Nat) (n t : Int) (i j : Nat) : Prop := ∃ (r l : List nm9) (n' b f e : Nat) (nv : Nat → Int), γ.2.2.2.2.2.1 = r ++ l ∧ (n = (n' : Int) ∧ b ≤ R ∧ (∀ x : Nat, x < b → mI M (g + 13) x ≠ 0 → Er x ≤ n') ∧ Ty (nme True M g b W) (tn M g) M g f 0 n' e (fun _ => t) ∧ e ≤ T) ∧ (Eo γ.1 6 i j ∧ j < γ.2.2.2.2.1 ∧ (fl γ.1 (E9 γ.2.2.2.1 r 0) γ.2.1 0 i j).1 = 0) ∧ Nvq γ.1 γ.2.2.1 γ.2.2.2.1 r nv ∧ Td γ.1 γ.2.1 nv (so M g) (pm M g) (va M g) (fp M g) (np M g) 0 0 i j n' e
/-- a branch in pure words -/
def RBw (γ : gW9) (M : mM) (g R W T : Nat) (Er : Nat → Nat) (Z x : Nat) (br : br9) : Prop := mI M (g + 27) x = br.1 ∧ Rtw γ M g R W T Er (mI M (g + 26) x) 0 br.2.1.1 br.2.1.2 ∧ mI M (g + 29) x = ((br.2.2.length : Nat) : Int) ∧ ∃ fs : Nat, mI M (g + 28) x = (fs : Int) ∧ fs + br.2.2.length ≤ Z ∧ ∀ (i : Nat) (q : Nat × Nat × Nat × Nat), br.2.2[i]? = some q → nt M (g + 30) (fs + i) = ((q.1 : Nat) : Int) ∧ nt M (g + 32) (fs + i) = γ.2.1 q.2.2.2 ∧ q.1 < W ∧ Rtw γ M g R W T Er (nt M (g + 34) (fs + i)) (tn M g (100 + (q.1 : Int))) q.2.1 q.2.2.1
/-- a command in pure words -/
def RCw (γ : gW9) (M : mM) (g R W T : Nat) (Er : Nat → Nat) (Z c : Nat) (cm : cm9) : Prop := ((cm.1 = 1 ∧ mI M (g + 22) c = 0) ∨ (cm.1 = 2 ∧ mI M (g + 22) c ≠ 0)) ∧ mI M (g + 23) c = cm.2.1 ∧ Rtw γ M g R W T Er (mI M (g + 24) c) 1 cm.2.2.1.1 cm.2.2.1.2 ∧ (mI M (g + 25) c = ((cm.2.2.2.length : Nat) : Int) ∧ cm.2.2.2.length ≤ 8) ∧ ∀ (b : Nat) (x : br9), cm.2.2.2[b]? = some x → RBw γ M g R W T Er Z (8 * c + b) x
/-- consts and formulas in pure words -/
def RNw (γ : gW9) (M : mM) (g R : Nat) (Er : Nat → Nat) : Prop := ∀ l1 e l2, γ.2.2.2.2.2.1 = l1 ++ e :: l2 → e.2.1 ≠ 3 → rcn l1 < R ∧ (e.2.1 = 1 → mI M (g + 13) (rcn l1) = 0 ∧ e.2.2.2 = vr9 (tn M g (rcn l1)) (mL M (g + 16) (rcn l1)) (mL M (g + 17) (rcn l1))) ∧ (e.2.1 = 2 → mI M (g + 13) (rcn l1) ≠ 0 ∧ ∃ (n : Nat) (nv : Nat → Int), mI M (g + 15) (rcn l1) = (n : Int) ∧ Eo γ.1 6 (e.1 + 2) (nxq γ.1 34 γ.2.2.2.2.1 e.1) ∧ Nvq γ.1 γ.2.2.1 γ.2.2.2.1 l1 nv ∧ Td γ.1 γ.2.1 nv (so M g) (pm M g) (va M g) (fp M g) (np M g) 0 0 (e.1 + 2) (nxq γ.1 34 γ.2.2.2.2.1 e.1) n (Er (rcn l1)))
/-- the draft is the game -/
def RGq (γ : gW9) (M : mM) (g R W C Z T : Nat) (Er : Nat → Nat) (tg : Int) : Prop := (rcn γ.2.2.2.2.2.1 = R ∧ vcn γ.2.2.2.2.2.1 = W) ∧ RNw γ M g R Er ∧ (γ.2.2.2.2.2.2.1.length = W ∧ ∀ (v : Nat) (x : Int × Int × Int), γ.2.2.2.2.2.2.1[v]? = some x → mI M (g + 19) v = x.1 ∧ mI M (g + 20) v = x.2.1 ∧ mI M (g + 21) v = x.2.2) ∧ ((tg = -1 ∧ γ.2.2.2.2.2.2.2.1 = none) ∨ ∃ ij, γ.2.2.2.2.2.2.2.1 = some ij ∧ Rtw γ M g R W T Er tg 1 ij.1 ij.2) ∧ γ.2.2.2.2.2.2.2.2.length = C ∧ ∀ (c : Nat) (cm : cm9), γ.2.2.2.2.2.2.2.2[c]? = some cm → RCw γ M g R W T Er Z c cm
/-- the sets -/
def Sx (M : mM) (g R W T : Nat) (E : Nat → Nat) (Z : Nat) : Prop := ∀ i : Nat, i < Z → 0 ≤ nt M (g + 30) i ∧ nt M (g + 30) i < W ∧ Rt M g R W T E (nt M (g + 34) i) (tn M g (100 + nt M (g + 30) i))
def Dg (M : mM) (g R W C Z T : Nat) (E : Eg9) (tg : Int) : Prop := (R ≤ 60 ∧ W ≤ 12 ∧ C ≤ 60) ∧ Cn M g R ∧ Fm M g R W T E.1 ∧ Vr M g W ∧ (∀ c : Nat, c < C → Cc M g R W T E.1 Z c) ∧ Sx M g R W T E.1 Z ∧ (tg = -1 ∨ Rt M g R W T E.1 tg 1) ∧ RGq E.2 M g R W C Z T E.1 tg
/-- the nodes and the names' types are the same so far -/
def Gn (M : mM) (g R W T : Nat) (M' : mM) : Prop := (∀ n, n < T → so M' g n = so M g n ∧ va M' g n = va M g n ∧ fp M' g n = fp M g n ∧ np M' g n = np M g n ∧ pm M' g n = pm M g n) ∧ (∀ r : Nat, r < R → mI M' (g + 13) r = mI M (g + 13) r ∧ mI M' (g + 14) r = mI M (g + 14) r) ∧ (∀ v : Nat, v < W → mI M' (g + 18) v = mI M (g + 18) v)
theorem Gn.tr {r : Nat} (h : Gn M g R W T M') (hR : R ≤ 60) (hr : r < R) : tn M' g r = tn M g r := by
  unfold tn
  rw [if_neg (show ¬ (100 : Int) ≤ (r : Int) by omega), if_neg (show ¬ (100 : Int) ≤ (r : Int) by omega), Int.toNat_natCast, (h.2.1 r hr).2]
theorem Gn.tv {v : Int} (h : Gn M g R W T M') (h1 : 100 ≤ v) (h2 : v < 100 + W) : tn M' g v = tn M g v := by
  unfold tn
  rw [if_pos h1, if_pos h1, h.2.2 _ (by omega)]
theorem Gn.tnm {v : Int} {b : Nat} (h : Gn M g R W T M') (hR : R ≤ 60) (hv : nme True M g b W v) (hb : b ≤ R) : tn M' g v = tn M g v := by
  rcases hv with ⟨h1, h2, -⟩ | ⟨-, h1, h2⟩
  · have := h.tr (r := v.toNat) hR (by omega)
    rw [show ((v.toNat : Nat) : Int) = v by first | rfl | omega] at this
    exact this
  · exact h.tv h1 h2
theorem nme.tt {v : Int} {b : Nat} (h : nme True M g b W v) : nme True M' g b W v := by
  rcases h with ⟨h1, h2, -⟩ | h
  · exact Or.inl ⟨h1, h2, Or.inl trivial⟩
  · exact Or.inr h
theorem nme.wu {v : Int} {b : Nat} (h : nme True M g b W v) (hW : W ≤ W') : nme True M g b W' v := by
  rcases h with ⟨h1, h2, h3⟩ | ⟨-, h1, h2⟩
  · exact Or.inl ⟨h1, h2, Or.inl trivial⟩
  · exact Or.inr ⟨trivial, h1, by omega⟩
theorem Gn.ty {b f n e : Nat} {u : Nat → Int} (h : Gn M g R W T M') (hR : R ≤ 60) (hb : b ≤ R) (he : e ≤ T) (t : Ty (nme True M g b W) (tn M g) M g f 0 n e u) : Ty (nme True M' g b W) (tn M' g) M' g f 0 n e u :=
  (t.mono (nm' := nme True M' g b W) (w' := tn M' g) (fun v hv => ⟨hv.tt, h.tnm hR hv hb⟩)).fr (fun k _ k2 => ⟨(h.1 k (by omega)).1, (h.1 k (by omega)).2.1, (h.1 k (by omega)).2.2.1⟩) (fun k _ k2 => (h.1 k (by omega)).2.2.2.1) (fun z => absurd rfl z)
theorem Rt.gn {n t : Int} (h : Rt M g R W T E n t) (k : Gn M g R W T M') (hR : R ≤ 60) : Rt M' g R W T E n t := by
  obtain ⟨n', b, f, e, h1, h2, h3, h4, h5⟩ := h
  exact ⟨n', b, f, e, h1, h2, fun r hr z => h3 r hr (by rw [← (k.2.1 r (by omega)).1]; exact z), k.ty hR h2 h5 h4, h5⟩
theorem Rt.up {n t : Int} (h : Rt M g R W T E n t) (hR : R ≤ R') (hW : W ≤ W') (hT : T ≤ T') (hE : ∀ r, r < R → E' r = E r) : Rt M g R' W' T' E' n t := by
  obtain ⟨n', b, f, e, h1, h2, h3, h4, h5⟩ := h
  exact ⟨n', b, f, e, h1, by omega, fun r hr z => by rw [hE r (by omega)]; exact h3 r hr z, h4.mono (fun v hv => ⟨hv.wu hW, rfl⟩), by omega⟩
theorem Fm.gn (h : Fm M g R W T E) (k : Gn M g R W T M') (hR : R ≤ 60) (h15 : ∀ r : Nat, r < R → mI M' (g + 15) r = mI M (g + 15) r) : Fm M' g R W T E := by
  intro r hr z
  rw [(k.2.1 r hr).1] at z
  obtain ⟨n, f, h1, h2, h3, h4⟩ := h r hr z
  refine ⟨n, f, by rw [h15 r hr]; exact h1, h2, fun r' hr' z' => h3 r' hr' (by rw [← (k.2.1 r' (by omega)).1]; exact z'), ?_⟩
  rw [k.tr hR hr]
  exact k.ty hR (by omega) h2 h4
theorem Fm.up (h : Fm M g R W T E) (hW : W ≤ W') (hT : T ≤ T') (hE : ∀ r, r < R → E' r = E r) : Fm M g R W' T' E' := by
  intro r hr z
  obtain ⟨n, f, h1, h2, h3, h4⟩ := h r hr z
  refine ⟨n, f, h1, by rw [hE r hr]; omega, fun r' hr' z' => by rw [hE r' (by omega)]; exact h3 r' hr' z', ?_⟩
  rw [hE r hr]
  exact h4.mono (fun v hv => ⟨hv.wu hW, rfl⟩)
/-- the draft so far is the same -/
def Ge (M : mM) (g R W C Z T : Nat) (M' : mM) : Prop := Gn M g R W T M' ∧ (∀ r : Nat, r < R → mI M' (g + 15) r = mI M (g + 15) r ∧ mL M' (g + 16) r = mL M (g + 16) r ∧ mL M' (g + 17) r = mL M (g + 17) r) ∧ (∀ v : Nat, v < W → mI M' (g + 19) v = mI M (g + 19) v ∧ mI M' (g + 20) v = mI M (g + 20) v ∧ mI M' (g + 21) v = mI M (g + 21) v) ∧ (∀ c : Nat, c < C → mI M' (g + 24) c = mI M (g + 24) c ∧ mI M' (g + 25) c = mI M (g + 25) c ∧ ∀ b : Nat, b < 8 → mI M' (g + 26) (8 * c + b) = mI M (g + 26) (8 * c + b) ∧ mI M' (g + 28) (8 * c + b) = mI M (g + 28) (8 * c + b) ∧ mI M' (g + 29) (8 * c + b) = mI M (g + 29) (8 * c + b) ∧ mI M' (g + 27) (8 * c + b) = mI M (g + 27) (8 * c + b) ∧ mI M' (g + 22) c = mI M (g + 22) c ∧ mI M' (g + 23) c = mI M (g + 23) c) ∧ ∀ i : Nat, i < Z → nt M' (g + 30) i = nt M (g + 30) i ∧ nt M' (g + 34) i = nt M (g + 34) i ∧ nt M' (g + 32) i = nt M (g + 32) i
theorem Bc.gn {x : Nat} (h : Bc M g R W T E Z x) (k : Gn M g R W T M') (hR : R ≤ 60) (e : mI M' (g + 26) x = mI M (g + 26) x ∧ mI M' (g + 28) x = mI M (g + 28) x ∧ mI M' (g + 29) x = mI M (g + 29) x) : Bc M' g R W T E Z x := by
  unfold Bc at h ⊢
  rw [e.1, e.2.1, e.2.2]
  exact ⟨h.1.gn k hR, h.2⟩
theorem Cc.gn {c : Nat} (h : Cc M g R W T E Z c) (k : Gn M g R W T M') (hR : R ≤ 60) (e : mI M' (g + 24) c = mI M (g + 24) c ∧ mI M' (g + 25) c = mI M (g + 25) c ∧ ∀ b : Nat, b < 8 → mI M' (g + 26) (8 * c + b) = mI M (g + 26) (8 * c + b) ∧ mI M' (g + 28) (8 * c + b) = mI M (g + 28) (8 * c + b) ∧ mI M' (g + 29) (8 * c + b) = mI M (g + 29) (8 * c + b) ∧ mI M' (g + 27) (8 * c + b) = mI M (g + 27) (8 * c + b) ∧ mI M' (g + 22) c = mI M (g + 22) c ∧ mI M' (g + 23) c = mI M (g + 23) c) : Cc M' g R W T E Z c := by
  unfold Cc at h ⊢
  rw [e.1, e.2.1]
  obtain ⟨h1, h2, h3, h4⟩ := h
  exact ⟨h1.gn k hR, h2, h3, fun b hb => (h4 b hb).gn k hR ⟨(e.2.2 b (by omega)).1, (e.2.2 b (by omega)).2.1, (e.2.2 b (by omega)).2.2.1⟩⟩
theorem Bc.up {x Z' : Nat} (h : Bc M g R W T E Z x) (hR : R ≤ R') (hW : W ≤ W') (hT : T ≤ T') (hZ : Z ≤ Z') (hE : ∀ r, r < R → E' r = E r) : Bc M g R' W' T' E' Z' x := by
  obtain ⟨h1, h2, h3, h4⟩ := h
  exact ⟨h1.up hR hW hT hE, h2, h3, by omega⟩
theorem Cc.up {c Z' : Nat} (h : Cc M g R W T E Z c) (hR : R ≤ R') (hW : W ≤ W') (hT : T ≤ T') (hZ : Z ≤ Z') (hE : ∀ r, r < R → E' r = E r) : Cc M g R' W' T' E' Z' c := by
  obtain ⟨h1, h2, h3, h4⟩ := h
  exact ⟨h1.up hR hW hT hE, h2, h3, fun b hb => (h4 b hb).up hR hW hT hZ hE⟩
theorem Rtw.gn {γ : gW9} {n t : Int} {i j : Nat} (h : Rtw γ M g R W T E n t i j) (k : Gn M g R W T M') (hR : R ≤ 60) : Rtw γ M' g R W T E n t i j := by
  obtain ⟨r, l, n', b, f, e, nv, h1, ⟨h2, h3, h4, h5, h6⟩, h7, h8, h9⟩ := h
  exact ⟨r, l, n', b, f, e, nv, h1, ⟨h2, h3, fun x hx z => h4 x hx (by rw [← (k.2.1 x (by omega)).1]; exact z), k.ty hR h3 h6 h5, h6⟩, h7, h8, h9.cg (Or.inl ⟨rfl, h7.1⟩) (fun x _ x2 => ⟨(k.1 x (by omega)).1, (k.1 x (by omega)).2.2.2.2, (k.1 x (by omega)).2.1, (k.1 x (by omega)).2.2.1⟩) (fun x _ x2 => (k.1 x (by omega)).2.2.2.1) (fun u => absurd u (by decide))⟩
theorem Rtw.up {γ : gW9} {n t : Int} {i j : Nat} (h : Rtw γ M g R W T E n t i j) (hR : R ≤ R') (hW : W ≤ W') (hT : T ≤ T') (hE : ∀ r, r < R → E' r = E r) : Rtw γ M g R' W' T' E' n t i j := by
  obtain ⟨r, l, n', b, f, e, nv, h1, ⟨h2, h3, h4, h5, h6⟩, h7, h8, h9⟩ := h
  exact ⟨r, l, n', b, f, e, nv, h1, ⟨h2, by omega, fun x hx z => by rw [hE x (by omega)]; exact h4 x hx z, h5.mono (fun v hv => ⟨hv.wu hW, rfl⟩), by omega⟩, h7, h8, h9⟩
theorem Rtw.gw {γ : gW9} {n t : Int} {i j : Nat} {l9 : List nm9} {gm : gm9} (h : Rtw γ M g R W T E n t i j) : Rtw (gWs γ (γ.2.2.2.2.2.1 ++ l9) gm) M g R W T E n t i j := by
  obtain ⟨r, l, n', b, f, e, nv, h1, h2, h7, h8, h9⟩ := h
  exact ⟨r, l ++ l9, n', b, f, e, nv, by show γ.2.2.2.2.2.1 ++ l9 = r ++ (l ++ l9); rw [h1, List.append_assoc], h2, h7, h8, h9⟩
theorem RBw.ge {γ : gW9} {Z' c b : Nat} {br : br9} (h : RBw γ M g R W T E Z (8 * c + b) br) (k : Ge M g R W C Z' T M') (hR : R ≤ 60) (hc : c < C) (hb : b < 8) (hZ : Z ≤ Z') : RBw γ M' g R W T E Z (8 * c + b) br := by
  obtain ⟨h1, h2, h3, fs, h4, h5, h6⟩ := h
  obtain ⟨e1, e2, e3, e4, -⟩ := (k.2.2.2.1 c hc).2.2 b hb
  unfold RBw
  rw [e1, e2, e3, e4]
  refine ⟨h1, h2.gn k.1 hR, h3, fs, h4, h5, fun i q hq => ?_⟩
  obtain ⟨q1, q2, q3, q4⟩ := h6 i q hq
  have hl := (List.getElem?_eq_some_iff.mp hq).1
  obtain ⟨s1, s2, s3⟩ := k.2.2.2.2 (fs + i) (by omega)
  rw [s1, s2, s3, k.1.tv (by omega) (by omega)]
  exact ⟨q1, q2, q3, q4.gn k.1 hR⟩
theorem RBw.up {γ : gW9} {x Z' : Nat} {br : br9} (h : RBw γ M g R W T E Z x br) (hR : R ≤ R') (hW : W ≤ W') (hT : T ≤ T') (hZ : Z ≤ Z') (hE : ∀ r, r < R → E' r = E r) : RBw γ M g R' W' T' E' Z' x br := by
  obtain ⟨h1, h2, h3, fs, h4, h5, h6⟩ := h
  exact ⟨h1, h2.up hR hW hT hE, h3, fs, h4, by omega, fun i q hq => ⟨(h6 i q hq).1, (h6 i q hq).2.1, by have := (h6 i q hq).2.2.1; omega, (h6 i q hq).2.2.2.up hR hW hT hE⟩⟩
theorem RBw.gw {γ : gW9} {x : Nat} {br : br9} {l9 : List nm9} {gm : gm9} (h : RBw γ M g R W T E Z x br) : RBw (gWs γ (γ.2.2.2.2.2.1 ++ l9) gm) M g R W T E Z x br := by
  obtain ⟨h1, h2, h3, fs, h4, h5, h6⟩ := h
  exact ⟨h1, h2.gw, h3, fs, h4, h5, fun i q hq => ⟨(h6 i q hq).1, (h6 i q hq).2.1, (h6 i q hq).2.2.1, (h6 i q hq).2.2.2.gw⟩⟩
theorem RCw.ge {γ : gW9} {c : Nat} {cm : cm9} (h : RCw γ M g R W T E Z c cm) (k : Ge M g R W C Z T M') (hR : R ≤ 60) (hc : c < C) : RCw γ M' g R W T E Z c cm := by
  obtain ⟨h1, h2, h3, h4, h5⟩ := h
  obtain ⟨e1, e2, e3⟩ := k.2.2.2.1 c hc
  obtain ⟨-, -, -, -, e4, e5⟩ := e3 0 (by omega)
  unfold RCw
  rw [e1, e2, e4, e5]
  exact ⟨h1, h2, h3.gn k.1 hR, h4, fun b x hb => (h5 b x hb).ge k hR hc (by have := (List.getElem?_eq_some_iff.mp hb).1; omega) (Nat.le_refl _)⟩
theorem RCw.up {γ : gW9} {c Z' : Nat} {cm : cm9} (h : RCw γ M g R W T E Z c cm) (hR : R ≤ R') (hW : W ≤ W') (hT : T ≤ T') (hZ : Z ≤ Z') (hE : ∀ r, r < R → E' r = E r) : RCw γ M g R' W' T' E' Z' c cm := by
  obtain ⟨h1, h2, h3, h4, h5⟩ := h
  exact ⟨h1, h2, h3.up hR hW hT hE, h4, fun b x hb => (h5 b x hb).up hR hW hT hZ hE⟩
theorem RCw.gw {γ : gW9} {c : Nat} {cm : cm9} {l9 : List nm9} {gm : gm9} (h : RCw γ M g R W T E Z c cm) : RCw (gWs γ (γ.2.2.2.2.2.1 ++ l9) gm) M g R W T E Z c cm := by
  obtain ⟨h1, h2, h3, h4, h5⟩ := h
  exact ⟨h1, h2, h3.gw, h4, fun b x hb => (h5 b x hb).gw⟩
theorem RNw.ge {γ : gW9} (h : RNw γ M g R E) (k : Ge M g R W C Z T M') (hR : R ≤ 60) (hF : ∀ r : Nat, r < R → mI M (g + 13) r ≠ 0 → E r ≤ T) : RNw γ M' g R E := by
  intro l1 e l2 he h3
  obtain ⟨h0, h1, h2⟩ := h l1 e l2 he h3
  refine ⟨h0, fun u => ?_, fun u => ?_⟩
  · obtain ⟨a1, a2⟩ := h1 u
    rw [(k.1.2.1 _ h0).1, k.1.tr hR h0, (k.2.1 _ h0).2.1, (k.2.1 _ h0).2.2]
    exact ⟨a1, a2⟩
  · obtain ⟨a1, n, nv, a2, a3, a4, a5⟩ := h2 u
    rw [(k.1.2.1 _ h0).1, (k.2.1 _ h0).1]
    refine ⟨a1, n, nv, a2, a3, a4, ?_⟩
    have hT := hF _ h0 a1
    exact a5.cg (Or.inl ⟨rfl, a3⟩) (fun x _ x2 => ⟨(k.1.1 x (by omega)).1, (k.1.1 x (by omega)).2.2.2.2, (k.1.1 x (by omega)).2.1, (k.1.1 x (by omega)).2.2.1⟩) (fun x _ x2 => (k.1.1 x (by omega)).2.2.2.1) (fun u => absurd u (by decide))
theorem RGq.ge {γ : gW9} {tg : Int} (h : RGq γ M g R W C Z T E tg) (k : Ge M g R W C Z T M') (hR : R ≤ 60) (hF : ∀ r : Nat, r < R → mI M (g + 13) r ≠ 0 → E r ≤ T) : RGq γ M' g R W C Z T E tg := by
  obtain ⟨h1, h2, ⟨h3, h4⟩, h5, h6, h7⟩ := h
  refine ⟨h1, h2.ge k hR hF, ⟨h3, fun v x hv => ?_⟩, h5.imp (fun u => u) (fun ⟨ij, u1, u2⟩ => ⟨ij, u1, u2.gn k.1 hR⟩), h6, fun c cm hc => (h7 c cm hc).ge k hR (by rw [← h6]; exact (List.getElem?_eq_some_iff.mp hc).1)⟩
  have hl := (List.getElem?_eq_some_iff.mp hv).1
  obtain ⟨e1, e2, e3⟩ := k.2.2.1 v (by omega)
  rw [e1, e2, e3]
  exact h4 v x hv
/-- more nodes, more sets -/
theorem RGq.tz {γ : gW9} {tg : Int} {Z' : Nat} (h : RGq γ M g R W C Z T E tg) (hT : T ≤ T') (hZ : Z ≤ Z') : RGq γ M g R W C Z' T' E tg := by
  obtain ⟨h1, h2, h3, h5, h6, h7⟩ := h
  have r0 := Nat.le_refl R
  have w0 := Nat.le_refl W
  have hE : ∀ r, r < R → E r = E r := fun _ _ => rfl
  exact ⟨h1, h2, h3, h5.imp (fun u => u) (fun ⟨ij, u1, u2⟩ => ⟨ij, u1, u2.up r0 w0 hT hE⟩), h6, fun c cm hc => (h7 c cm hc).up r0 w0 hT hZ hE⟩
theorem app_in {l1 l2 nms : List nm9} {e e0 : nm9} (h : nms ++ [e0] = l1 ++ e :: l2) : (l1 = nms ∧ e = e0 ∧ l2 = []) ∨ ∃ l3, nms = l1 ++ e :: l3 := by
  rcases List.append_eq_append_iff.mp h with ⟨a, h1, h2⟩ | ⟨c, h1, h2⟩
  · cases a with
    | nil =>
      rw [List.nil_append] at h2
      obtain ⟨h3, h4⟩ := List.cons.inj h2
      exact Or.inl ⟨by rw [h1, List.append_nil], h3.symm, h4.symm⟩
    | cons x a =>
      obtain ⟨-, h3⟩ := List.cons.inj h2
      exact absurd (congrArg List.length h3) (by simp)
  · cases c with
    | nil =>
      rw [List.nil_append] at h2
      obtain ⟨h3, h4⟩ := List.cons.inj h2
      exact Or.inl ⟨by rw [h1, List.append_nil], h3, h4⟩
    | cons x c =>
      obtain ⟨h3, h4⟩ := List.cons.inj h2
      exact Or.inr ⟨c, by rw [h1, ← h3]⟩
/-- one more const or formula -/
theorem RGq.ru {γ : gW9} {tg : Int} {e : nm9} (h : RGq γ M g R W C Z T E tg) (hE : ∀ r, r < R → E' r = E r) (h3 : e.2.1 ≠ 3) (hc : e.2.1 = 1 → mI M (g + 13) R = 0 ∧ e.2.2.2 = vr9 (tn M g R) (mL M (g + 16) R) (mL M (g + 17) R)) (hf : e.2.1 = 2 → mI M (g + 13) R ≠ 0 ∧ ∃ (n : Nat) (nv : Nat → Int), mI M (g + 15) R = (n : Int) ∧ Eo γ.1 6 (e.1 + 2) (nxq γ.1 34 γ.2.2.2.2.1 e.1) ∧ Nvq γ.1 γ.2.2.1 γ.2.2.2.1 γ.2.2.2.2.2.1 nv ∧ Td γ.1 γ.2.1 nv (so M g) (pm M g) (va M g) (fp M g) (np M g) 0 0 (e.1 + 2) (nxq γ.1 34 γ.2.2.2.2.1 e.1) n (E' R)) : RGq (gWs γ (γ.2.2.2.2.2.1 ++ [e]) γ.2.2.2.2.2.2) M g (R + 1) W C Z T E' tg := by
  obtain ⟨⟨h0, h0'⟩, h2, h4, h5, h6, h7⟩ := h
  have r0 := Nat.le_succ R
  have w0 := Nat.le_refl W
  have t0 := Nat.le_refl T
  refine ⟨⟨?_, ?_⟩, fun l1 e' l2 he h3' => ?_, h4, h5.imp (fun u => u) (fun ⟨ij, u1, u2⟩ => ⟨ij, u1, (u2.up r0 w0 t0 hE).gw⟩), h6, fun c cm hc' => ((h7 c cm hc').up r0 w0 t0 (Nat.le_refl _) hE).gw⟩
  · show rcn (γ.2.2.2.2.2.1 ++ [e]) = R + 1
    rw [rcn_app, h0]
    show R + (0 + (if e.2.1 = 3 then 0 else 1)) = R + 1
    rw [if_neg h3]
  · show vcn (γ.2.2.2.2.2.1 ++ [e]) = W
    rw [vcn_app, h0']
    show W + (0 + (if e.2.1 = 3 then 1 else 0)) = W
    rw [if_neg h3]
    omega
  · rcases app_in (show γ.2.2.2.2.2.1 ++ [e] = l1 ++ e' :: l2 from he) with ⟨a1, a2, -⟩ | ⟨l3, a1⟩
    · subst a1 a2
      rw [h0]
      exact ⟨by omega, hc, hf⟩
    · obtain ⟨b0, b1, b2⟩ := h2 l1 e' l3 a1 h3'
      refine ⟨by omega, b1, fun u => ?_⟩
      rw [hE _ b0]
      exact b2 u
/-- one more variable -/
theorem RGq.vu {γ : gW9} {tg : Int} {e : nm9} {x : Int × Int × Int} (h : RGq γ M g R W C Z T E tg) (h3 : e.2.1 = 3) (hx : mI M (g + 19) W = x.1 ∧ mI M (g + 20) W = x.2.1 ∧ mI M (g + 21) W = x.2.2) : RGq (gWs γ (γ.2.2.2.2.2.1 ++ [e]) (γ.2.2.2.2.2.2.1 ++ [x], γ.2.2.2.2.2.2.2)) M g R (W + 1) C Z T E tg := by
  obtain ⟨⟨h0, h0'⟩, h2, ⟨h4, h4'⟩, h5, h6, h7⟩ := h
  have r0 := Nat.le_refl R
  have w0 := Nat.le_succ W
  have t0 := Nat.le_refl T
  have hE : ∀ r, r < R → E r = E r := fun _ _ => rfl
  refine ⟨⟨?_, ?_⟩, fun l1 e' l2 he h3' => ?_, ⟨?_, fun v y hv => ?_⟩, h5.imp (fun u => u) (fun ⟨ij, u1, u2⟩ => ⟨ij, u1, (u2.up r0 w0 t0 hE).gw⟩), h6, fun c cm hc' => ((h7 c cm hc').up r0 w0 t0 (Nat.le_refl _) hE).gw⟩
  · show rcn (γ.2.2.2.2.2.1 ++ [e]) = R
    rw [rcn_app, h0]
    show R + (0 + (if e.2.1 = 3 then 0 else 1)) = R
    rw [if_pos h3]
    rfl
  · show vcn (γ.2.2.2.2.2.1 ++ [e]) = W + 1
    rw [vcn_app, h0']
    show W + (0 + (if e.2.1 = 3 then 1 else 0)) = W + 1
    rw [if_pos h3]
  · rcases app_in (show γ.2.2.2.2.2.1 ++ [e] = l1 ++ e' :: l2 from he) with ⟨a1, a2, -⟩ | ⟨l3, a1⟩
    · rw [a2] at h3'
      exact absurd h3 h3'
    · exact h2 l1 e' l3 a1 h3'
  · show (γ.2.2.2.2.2.2.1 ++ [x]).length = W + 1
    rw [List.length_append, h4]
    rfl
  · have hv : (γ.2.2.2.2.2.2.1 ++ [x])[v]? = some y := hv
    by_cases c : v < W
    · rw [List.getElem?_append_left (by omega)] at hv
      exact h4' v y hv
    · have hl := (List.getElem?_eq_some_iff.mp hv).1
      rw [List.length_append] at hl
      have ev : v = W := by simp at hl; omega
      subst ev
      rw [List.getElem?_append_right (by omega), h4, Nat.sub_self] at hv
      have : x = y := Option.some.inj hv
      rw [← this]
      exact hx
/-- one more command -/
theorem RGq.cu {γ : gW9} {tg : Int} {cm : cm9} (h : RGq γ M g R W C Z T E tg) (hc : RCw γ M g R W T E Z C cm) : RGq (gWs γ γ.2.2.2.2.2.1 (γ.2.2.2.2.2.2.1, γ.2.2.2.2.2.2.2.1, γ.2.2.2.2.2.2.2.2 ++ [cm])) M g R W (C + 1) Z T E tg := by
  obtain ⟨h1, h2, h4, h5, h6, h7⟩ := h
  refine ⟨h1, h2, h4, h5, ?_, fun c cm' hc' => ?_⟩
  · show (γ.2.2.2.2.2.2.2.2 ++ [cm]).length = C + 1
    rw [List.length_append, h6]
    rfl
  · have hc' : (γ.2.2.2.2.2.2.2.2 ++ [cm])[c]? = some cm' := hc'
    by_cases y : c < C
    · rw [List.getElem?_append_left (by omega)] at hc'
      exact h7 c cm' hc'
    · have hl := (List.getElem?_eq_some_iff.mp hc').1
      rw [List.length_append] at hl
      have ev : c = C := by simp at hl; omega
      subst ev
      rw [List.getElem?_append_right (by omega), h6, Nat.sub_self] at hc'
      have : cm = cm' := Option.some.inj hc'
      rw [← this]
      exact hc
/-- the target -/
theorem RGq.tgu {γ : gW9} {tg tg' : Int} {ij : Nat × Nat} (h : RGq γ M g R W C Z T E tg) (ht : Rtw γ M g R W T E tg' 1 ij.1 ij.2) : RGq (gWs γ γ.2.2.2.2.2.1 (γ.2.2.2.2.2.2.1, some ij, γ.2.2.2.2.2.2.2.2)) M g R W C Z T E tg' := by
  obtain ⟨h1, h2, h4, -, h6, h7⟩ := h
  exact ⟨h1, h2, h4, Or.inr ⟨ij, rfl, ht⟩, h6, h7⟩
end DF
section DG
variable {a g R W C Z T R' W' T' : Nat} {M M' : mM} {E E' : Eg9}
theorem Dg.ge {tg : Int} (h : Dg M g R W C Z T E tg) (k : Ge M g R W C Z T M') : Dg M' g R W C Z T E tg := by
  obtain ⟨hB, h1, h2, h3, h4, h5, h6, hG⟩ := h
  obtain ⟨kn, k1, k2, k3, k4⟩ := k
  refine ⟨hB, fun r hr z => ?_, h2.gn kn hB.1 (fun r hr => (k1 r hr).1), fun v hv => ?_, fun c hc => (h4 c hc).gn kn hB.1 (k3 c hc), fun i hi => ?_, h6.imp (fun z => z) (fun z => z.gn kn hB.1), hG.ge ⟨kn, k1, k2, k3, k4⟩ hB.1 (fun r hr z => by obtain ⟨n, f, q1, q2, -⟩ := h2 r hr z; exact q2)⟩
  · rw [(kn.2.1 r hr).1] at z
    rw [kn.tr hB.1 hr, (k1 r hr).2.1, (k1 r hr).2.2]
    exact h1 r hr z
  · rw [kn.2.2 v hv, (k2 v hv).1, (k2 v hv).2.1, (k2 v hv).2.2]
    exact h3 v hv
  · obtain ⟨s1, s2, s3⟩ := h5 i hi
    rw [(k4 i hi).1, (k4 i hi).2.1]
    refine ⟨s1, s2, ?_⟩
    rw [kn.tv (by omega) (by omega)]
    exact s3.gn kn hB.1
/-- more nodes -/
theorem Dg.tu {tg : Int} (h : Dg M g R W C Z T E tg) (hT : T ≤ T') : Dg M g R W C Z T' E tg := by
  obtain ⟨hB, h1, h2, h3, h4, h5, h6, hG⟩ := h
  have r0 := Nat.le_refl R
  have w0 := Nat.le_refl W
  have hE : ∀ r, r < R → E.1 r = E.1 r := fun _ _ => rfl
  exact ⟨hB, h1, h2.up w0 hT hE, h3, fun c hc => (h4 c hc).up r0 w0 hT (Nat.le_refl Z) hE, fun i hi => ⟨(h5 i hi).1, (h5 i hi).2.1, (h5 i hi).2.2.up r0 w0 hT hE⟩, h6.imp (fun z => z) (fun z => z.up r0 w0 hT hE), hG.tz hT (Nat.le_refl _)⟩
/-- one more rule -/
theorem Dg.ru {tg : Int} (h : Dg M g R W C Z T E tg) (hR : R < 60) (hE : ∀ r, r < R → E'.1 r = E.1 r) (hGn : RGq E'.2 M g (R + 1) W C Z T E'.1 tg) (hc : mI M (g + 13) R = 0 → vok (tn M g R) (mL M (g + 16) R) (mL M (g + 17) R)) (hf : mI M (g + 13) R ≠ 0 → ∃ n f : Nat, mI M (g + 15) R = (n : Int) ∧ E'.1 R ≤ T ∧ (∀ r' : Nat, r' < R → mI M (g + 13) r' ≠ 0 → E'.1 r' ≤ n) ∧ Ty (nme True M g R W) (tn M g) M g f 0 n (E'.1 R) (fun _ => tn M g R)) : Dg M g (R + 1) W C Z T E' tg := by
  obtain ⟨hB, h1, h2, h3, h4, h5, h6, hG⟩ := h
  have r0 := Nat.le_succ R
  have w0 := Nat.le_refl W
  have t0 := Nat.le_refl T
  have f2 := h2.up w0 t0 hE
  refine ⟨⟨by omega, hB.2⟩, fun r hr z => ?_, fun r hr z => ?_, h3, fun c hc => (h4 c hc).up r0 w0 t0 (Nat.le_refl Z) hE, fun i hi => ⟨(h5 i hi).1, (h5 i hi).2.1, (h5 i hi).2.2.up r0 w0 t0 hE⟩, h6.imp (fun z => z) (fun z => z.up r0 w0 t0 hE), hGn⟩
  · by_cases y : r = R
    · rw [y] at z ⊢; exact hc z
    · exact h1 r (by omega) z
  · by_cases y : r = R
    · rw [y] at z ⊢; exact hf z
    · exact f2 r (by omega) z
/-- one more variable -/
theorem Dg.vu {tg : Int} (h : Dg M g R W C Z T E tg) (hW : W < 12) (e1 : E'.1 = E.1) (hGn : RGq E'.2 M g R (W + 1) C Z T E'.1 tg) (hv : (mI M (g + 18) W ≠ 0 → mI M (g + 19) W = 0 ∧ mI M (g + 20) W = 1) ∧ mI M (g + 19) W ≤ mI M (g + 21) W ∧ mI M (g + 21) W ≤ mI M (g + 20) W ∧ -1000000000 < mI M (g + 19) W ∧ mI M (g + 20) W < 1000000000 ∧ (mI M (g + 18) W = 0 ∨ mI M (g + 18) W = 1)) : Dg M g R (W + 1) C Z T E' tg := by
  obtain ⟨hB, h1, h2, h3, h4, h5, h6, hG⟩ := h
  have r0 := Nat.le_refl R
  have w0 := Nat.le_succ W
  have t0 := Nat.le_refl T
  have hE : ∀ r, r < R → E'.1 r = E.1 r := fun _ _ => by rw [e1]
  refine ⟨⟨hB.1, by omega, hB.2.2⟩, h1, h2.up w0 t0 hE, fun v hv' => ?_, fun c hc => (h4 c hc).up r0 w0 t0 (Nat.le_refl Z) hE, fun i hi => ⟨(h5 i hi).1, by have := (h5 i hi).2.1; omega, (h5 i hi).2.2.up r0 w0 t0 hE⟩, h6.imp (fun z => z) (fun z => z.up r0 w0 t0 hE), hGn⟩
  by_cases y : v = W
  · rw [y]; exact hv
  · exact h3 v (by omega)
/-- one more command -/
theorem Dg.cu {tg : Int} (h : Dg M g R W C Z T E tg) (hC : C < 60) (e1 : E'.1 = E.1) (hGn : RGq E'.2 M g R W (C + 1) Z T E'.1 tg) (hc : Cc M g R W T E.1 Z C) : Dg M g R W (C + 1) Z T E' tg := by
  obtain ⟨hB, h1, h2, h3, h4, h5, h6, hG⟩ := h
  refine ⟨⟨hB.1, hB.2.1, by omega⟩, h1, by rw [e1]; exact h2, h3, fun c hc' => ?_, by rw [e1]; exact h5, by rw [e1]; exact h6, hGn⟩
  rw [e1]
  by_cases y : c = C
  · rw [y]; exact hc
  · exact h4 c (by omega)
/-- one more set -/
theorem Dg.zu {tg : Int} (h : Dg M g R W C Z T E tg) (hs : 0 ≤ nt M (g + 30) Z ∧ nt M (g + 30) Z < W ∧ Rt M g R W T E.1 (nt M (g + 34) Z) (tn M g (100 + nt M (g + 30) Z))) : Dg M g R W C (Z + 1) T E tg := by
  obtain ⟨hB, h1, h2, h3, h4, h5, h6, hG⟩ := h
  have hE : ∀ r, r < R → E.1 r = E.1 r := fun _ _ => rfl
  refine ⟨hB, h1, h2, h3, fun c hc => (h4 c hc).up (Nat.le_refl _) (Nat.le_refl _) (Nat.le_refl _) (Nat.le_succ Z) hE, fun i hi => ?_, h6, hG.tz (Nat.le_refl _) (Nat.le_succ _)⟩
  by_cases y : i = Z
  · rw [y]; exact hs
  · exact h5 i (by omega)
theorem Dg.tgu {tg tg' : Int} (h : Dg M g R W C Z T E tg) (e1 : E'.1 = E.1) (hGn : RGq E'.2 M g R W C Z T E'.1 tg') (ht : tg' = -1 ∨ Rt M g R W T E.1 tg' 1) : Dg M g R W C Z T E' tg' := by
  unfold Dg
  rw [e1]
  exact ⟨h.1, h.2.1, h.2.2.1, h.2.2.2.1, h.2.2.2.2.1, h.2.2.2.2.2.1, ht, by rw [← e1]; exact hGn⟩
end DG
end
section
/-! The reference: steps of the draft. -/
section FR
variable {a g R W C Z T N K : Nat} {M M' M2 M3 : mM} {P S : Nat → Prop}
theorem Gn.trans (h : Gn M g R W T M2) (k : Gn M2 g R W T M3) : Gn M g R W T M3 :=
  ⟨fun n hn => ⟨(k.1 n hn).1.trans (h.1 n hn).1, (k.1 n hn).2.1.trans (h.1 n hn).2.1, (k.1 n hn).2.2.1.trans (h.1 n hn).2.2.1, (k.1 n hn).2.2.2.1.trans (h.1 n hn).2.2.2.1, (k.1 n hn).2.2.2.2.trans (h.1 n hn).2.2.2.2⟩, fun r hr => ⟨(k.2.1 r hr).1.trans (h.2.1 r hr).1, (k.2.1 r hr).2.trans (h.2.1 r hr).2⟩, fun v hv => (k.2.2 v hv).trans (h.2.2 v hv)⟩
theorem Ge.trans (h : Ge M g R W C Z T M2) (k : Ge M2 g R W C Z T M3) : Ge M g R W C Z T M3 := by
  obtain ⟨h0, h1, h2, h3, h4⟩ := h
  obtain ⟨k0, k1, k2, k3, k4⟩ := k
  refine ⟨h0.trans k0, fun r hr => ⟨(k1 r hr).1.trans (h1 r hr).1, (k1 r hr).2.1.trans (h1 r hr).2.1, (k1 r hr).2.2.trans (h1 r hr).2.2⟩, fun v hv => ⟨(k2 v hv).1.trans (h2 v hv).1, (k2 v hv).2.1.trans (h2 v hv).2.1, (k2 v hv).2.2.trans (h2 v hv).2.2⟩, fun c hc => ⟨(k3 c hc).1.trans (h3 c hc).1, (k3 c hc).2.1.trans (h3 c hc).2.1, fun b hb => ⟨((k3 c hc).2.2 b hb).1.trans ((h3 c hc).2.2 b hb).1, ((k3 c hc).2.2 b hb).2.1.trans ((h3 c hc).2.2 b hb).2.1, ((k3 c hc).2.2 b hb).2.2.1.trans ((h3 c hc).2.2 b hb).2.2.1, ((k3 c hc).2.2 b hb).2.2.2.1.trans ((h3 c hc).2.2 b hb).2.2.2.1, ((k3 c hc).2.2 b hb).2.2.2.2.1.trans ((h3 c hc).2.2 b hb).2.2.2.2.1, ((k3 c hc).2.2 b hb).2.2.2.2.2.trans ((h3 c hc).2.2 b hb).2.2.2.2.2⟩⟩, fun i hi => ⟨(k4 i hi).1.trans (h4 i hi).1, (k4 i hi).2.1.trans (h4 i hi).2.1, (k4 i hi).2.2.trans (h4 i hi).2.2⟩⟩
theorem Ge.refl : Ge M g R W C Z T M := ⟨⟨fun _ _ => ⟨rfl, rfl, rfl, rfl, rfl⟩, fun _ _ => ⟨rfl, rfl⟩, fun _ _ => rfl⟩, fun _ _ => ⟨rfl, rfl, rfl⟩, fun _ _ => ⟨rfl, rfl, rfl⟩, fun _ _ => ⟨rfl, rfl, fun _ _ => ⟨rfl, rfl, rfl, rfl, rfl, rfl⟩⟩, fun _ _ => ⟨rfl, rfl, rfl⟩⟩
theorem Ge.down {R' W' C' Z' T' : Nat} (h : Ge M g R' W' C' Z' T' M2) (hR : R ≤ R') (hW : W ≤ W') (hC : C ≤ C') (hZ : Z ≤ Z') (hT : T ≤ T') : Ge M g R W C Z T M2 :=
  ⟨⟨fun n hn => h.1.1 n (by omega), fun r hr => h.1.2.1 r (by omega), fun v hv => h.1.2.2 v (by omega)⟩, fun r hr => h.2.1 r (by omega), fun v hv => h.2.2.1 v (by omega), fun c hc => h.2.2.2.1 c (by omega), fun i hi => h.2.2.2.2 i (by omega)⟩
theorem n30 (hg : g = a + 13 ∨ g = a + 49) : g + 30 ∈ nums a := by
  rcases hg with z | z <;> rw [z, Nat.add_assoc] <;> exact nums_o (by decide)
theorem n32 (hg : g = a + 13 ∨ g = a + 49) : g + 32 ∈ nums a := by
  rcases hg with z | z <;> rw [z, Nat.add_assoc] <;> exact nums_o (by decide)
theorem n34 (hg : g = a + 13 ∨ g = a + 49) : g + 34 ∈ nums a := by
  rcases hg with z | z <;> rw [z, Nat.add_assoc] <;> exact nums_o (by decide)
/-- a step that leaves the game's cells and set lists -/
theorem ge_mv (w : Wd M a) (hg : g = a + 13 ∨ g = a + 49) (m : Mv P S M a M') (hin : ∀ q, P q → q ∈ nums a) (h30 : ¬ P (g + 30)) (h34 : ¬ P (g + 34)) (h32 : ¬ P (g + 32)) (hS : ∀ i, 13 ≤ i → i ≤ 29 → ¬ S (g + i)) (hn : ∀ n, n < T → so M' g n = so M g n ∧ va M' g n = va M g n ∧ fp M' g n = fp M g n ∧ np M' g n = np M g n ∧ pm M' g n = pm M g n) : Ge M g R W C Z T M' := by
  have c13 := m.cellL w hin (goffx (i := 13) hg (by decide) (by decide)) (hS 13 (by omega) (by omega))
  have c14 := m.cellL w hin (goffx (i := 14) hg (by decide) (by decide)) (hS 14 (by omega) (by omega))
  have c15 := m.cellL w hin (goffx (i := 15) hg (by decide) (by decide)) (hS 15 (by omega) (by omega))
  have c16 := m.cellL w hin (goffx (i := 16) hg (by decide) (by decide)) (hS 16 (by omega) (by omega))
  have c17 := m.cellL w hin (goffx (i := 17) hg (by decide) (by decide)) (hS 17 (by omega) (by omega))
  have c18 := m.cellL w hin (goffx (i := 18) hg (by decide) (by decide)) (hS 18 (by omega) (by omega))
  have c19 := m.cellL w hin (goffx (i := 19) hg (by decide) (by decide)) (hS 19 (by omega) (by omega))
  have c20 := m.cellL w hin (goffx (i := 20) hg (by decide) (by decide)) (hS 20 (by omega) (by omega))
  have c21 := m.cellL w hin (goffx (i := 21) hg (by decide) (by decide)) (hS 21 (by omega) (by omega))
  have c24 := m.cellL w hin (goffx (i := 24) hg (by decide) (by decide)) (hS 24 (by omega) (by omega))
  have c25 := m.cellL w hin (goffx (i := 25) hg (by decide) (by decide)) (hS 25 (by omega) (by omega))
  have c26 := m.cellL w hin (goffx (i := 26) hg (by decide) (by decide)) (hS 26 (by omega) (by omega))
  have c28 := m.cellL w hin (goffx (i := 28) hg (by decide) (by decide)) (hS 28 (by omega) (by omega))
  have c29 := m.cellL w hin (goffx (i := 29) hg (by decide) (by decide)) (hS 29 (by omega) (by omega))
  have c22 := m.cellL w hin (goffx (i := 22) hg (by decide) (by decide)) (hS 22 (by omega) (by omega))
  have c23 := m.cellL w hin (goffx (i := 23) hg (by decide) (by decide)) (hS 23 (by omega) (by omega))
  have c27 := m.cellL w hin (goffx (i := 27) hg (by decide) (by decide)) (hS 27 (by omega) (by omega))
  have s32 := m.lst (n32 hg) h32
  have s30 := m.lst (n30 hg) h30
  have s34 := m.lst (n34 hg) h34
  exact ⟨⟨hn, fun r _ => ⟨by rw [c13.1], by rw [c14.1]⟩, fun v _ => by rw [c18.1]⟩, fun r _ => ⟨by rw [c15.1], by rw [c16.2], by rw [c17.2]⟩, fun v _ => ⟨by rw [c19.1], by rw [c20.1], by rw [c21.1]⟩, fun c _ => ⟨by rw [c24.1], by rw [c25.1], fun b _ => ⟨by rw [c26.1], by rw [c28.1], by rw [c29.1], by rw [c27.1], by rw [c22.1], by rw [c23.1]⟩⟩, fun i _ => ⟨s30.2.1 i, s34.2.1 i, s32.2.1 i⟩⟩
/-- an int of a cell that belongs to no list -/
theorem mv_cell {x j : Nat} {v : Int} (hv : i32 v) (hO : mOk M) (w : Wd M a) (h0 : a ≤ x) (hx : x < a + 21192 ∧ x ∉ nums a ∧ (∀ q, q ∈ nums a → x ≠ q + 1)) (e : M' = mUI M x j v) : Mv (fun _ => False) (fun y => y = x) M a M' ∧ (∀ y k, mI M' y k = if y = x ∧ k = j then v else mI M y k) ∧ mL M' = mL M := by
  have f : FI (fun y => y = x) M M' := by rw [e]; exact FI.ui rfl
  refine ⟨mv_fi (by rw [e]; exact mOk_UI hO hv) w f (fun y z => by rw [z]; exact ⟨h0, by omega, hx.2.1, hx.2.2⟩), fun y k => by rw [e, mI_UI], f.2.2.2.1⟩
/-- a store beyond what is known -/
theorem ge_st {i j : Nat} {v : Int} (hg : g = a + 13 ∨ g = a + 49) (m : Mv (fun _ => False) (fun y => y = g + i) M a M') (f : ∀ y k, mI M' y k = if y = g + i ∧ k = j then v else mI M y k) (hl : mL M' = mL M) (h0 : i ≤ 15 → R ≤ j) (h1 : 18 ≤ i → i ≤ 21 → W ≤ j) (h2 : 22 ≤ i → i ≤ 25 → C ≤ j) (h3 : 26 ≤ i → 8 * C ≤ j) : Ge M g R W C Z T M' := by
  have no : ∀ q : Nat, ¬ False := fun _ z => z
  have s : ∀ {q}, q ∈ nums a → sameN M M' q := fun hq => m.lst hq (fun z => z)
  refine ⟨⟨fun n _ => ⟨(s (tL_in (q := g + 1) hg (tLk1 g))).2.1 n, (s (tL_in (q := g + 7) hg (tLk7 g))).2.1 n, (s (tL_in (q := g + 9) hg (tLk9 g))).2.1 n, (s (tL_in (q := g + 11) hg (tLk11 g))).2.1 n, (s (tL_in (q := g + 3) hg (tLk3 g))).2.1 n⟩, fun r hr => ⟨?_, ?_⟩, fun v hv => ?_⟩, fun r hr => ⟨?_, by rw [hl], by rw [hl]⟩, fun v hv => ⟨?_, ?_, ?_⟩, fun c hc => ⟨?_, ?_, fun b hb => ⟨?_, ?_, ?_, ?_, ?_, ?_⟩⟩, fun i _ => ⟨(s (n30 hg)).2.1 i, (s (n34 hg)).2.1 i, (s (n32 hg)).2.1 i⟩⟩
  all_goals rw [f, if_neg (fun z => by omega)]
/-- a long beyond what is known -/
theorem ge_sl {i j : Nat} {v : Int} (hg : g = a + 13 ∨ g = a + 49) (m : Mv (fun _ => False) (fun y => y = g + i) M a M') (f : ∀ y k, mL M' y k = if y = g + i ∧ k = j then v else mL M y k) (hl : mI M' = mI M) (h0 : R ≤ j) : Ge M g R W C Z T M' := by
  have s : ∀ {q}, q ∈ nums a → sameN M M' q := fun hq => m.lst hq (fun z => z)
  refine ⟨⟨fun n _ => ⟨(s (tL_in (q := g + 1) hg (tLk1 g))).2.1 n, (s (tL_in (q := g + 7) hg (tLk7 g))).2.1 n, (s (tL_in (q := g + 9) hg (tLk9 g))).2.1 n, (s (tL_in (q := g + 11) hg (tLk11 g))).2.1 n, (s (tL_in (q := g + 3) hg (tLk3 g))).2.1 n⟩, fun r hr => by rw [hl]; exact ⟨rfl, rfl⟩, fun v hv => by rw [hl]⟩, fun r hr => ⟨by rw [hl], ?_, ?_⟩, fun v hv => by rw [hl]; exact ⟨rfl, rfl, rfl⟩, fun c hc => by rw [hl]; exact ⟨rfl, rfl, fun _ _ => ⟨rfl, rfl, rfl, rfl, rfl, rfl⟩⟩, fun i _ => ⟨(s (n30 hg)).2.1 i, (s (n34 hg)).2.1 i, (s (n32 hg)).2.1 i⟩⟩
  all_goals rw [f, if_neg (fun z => by omega)]
/-- the draft's words, names and nodes after such a step -/
theorem Lc.mv (h : Lc M a g N T K) (m : Mv P S M a M') (hin : ∀ q, P q → q ∈ nums a) (hP : ∀ q, P q → ¬ (q = a + 1 ∨ q = a + 3 ∨ q = a + 5 ∨ q = a + 7 ∨ q = a + 9 ∨ q = a + 85 ∨ q = a + 87 ∨ q = a + 89 ∨ q = g + 1 ∨ q = g + 3 ∨ q = g + 5 ∨ q = g + 7 ∨ q = g + 9 ∨ q = g + 11)) (h6 : mI M g 6 ≤ mI M' g 6) (h12 : mI M g 12 ≤ mI M' g 12) (hb : mI M' g 6 ≤ 60 ∧ mI M' g 12 ≤ 12) (h13 : ∀ r : Nat, (r : Int) < mI M g 6 → mI M' (g + 13) r = mI M (g + 13) r) : Lc M' a g N T K := by
  obtain ⟨hO, hx, hnm, hd, h10, hg, hB, hT⟩ := h
  have w := hx.1.1
  have t2 : ¬ P (mR M a 2) := fun z => by
    have := hP _ z
    rcases w.1.2.1 with y | y <;> rw [y.2] at this <;> omega
  have k85 := m.lst (n85 (a := a)) (fun z => hP _ z (by omega))
  have k87 := m.lst (n87 (a := a)) (fun z => hP _ z (by omega))
  have k89 := m.lst (n89 (a := a)) (fun z => hP _ z (by omega))
  refine ⟨m.1, hx.mv m hin (fun z => hP _ z (by omega)) (fun z => hP _ z (by omega)) (fun z => hP _ z (by omega)) t2, ?_, fun q hq => ?_, by rw [m.rfl_a w hin]; exact h10, hg, ⟨by omega, hb.1, by omega, hb.2⟩, hT⟩
  · obtain ⟨n1, n2, n3, n4, n5'⟩ := hnm
    refine ⟨by rw [k85.1]; exact n1, by rw [k87.1]; exact n2, by rw [k89.1]; exact n3, n4, fun k hk => ?_⟩
    rw [k85.2.1, k87.2.1, k89.2.1]
    obtain ⟨p1, p2, p3⟩ := n5' k hk
    refine ⟨p1, by omega, fun z => ?_⟩
    rw [h13 _ (by omega)]
    exact p3 z
  · have hq' : q = g + 1 ∨ q = g + 3 ∨ q = g + 5 ∨ q = g + 7 ∨ q = g + 9 ∨ q = g + 11 := hq
    rw [(m.lst (tL_in hg hq) (fun z => hP _ z (by omega))).1]
    exact hd q hq
/-- what reading items may change -/
abbrev itP (a g : Nat) : Nat → Prop := fun q => q ∈ nums a ∧ ((g + 1 ≤ q ∧ q ≤ g + 34) ∨ (a + 85 ≤ q ∧ q ≤ a + 99))
abbrev itS (a g : Nat) : Nat → Prop := fun x => x = a ∨ (g ≤ x ∧ x ≤ g + 29) ∨ (a + 97 ≤ x ∧ x ≤ a + 104)
def iF (M : mM) (a g : Nat) (M' : mM) : Prop := Mv (itP a g) (itS a g) M a M' ∧ ∀ i, i ≠ 16 → i ≠ 17 → i ≠ 23 → mI M' a i = mI M a i
theorem itP_lt (w : Wd M a) : ∀ q, itP a g q → q < mZ M := fun q hq => w.lt hq.1
theorem iF.refl (hO : mOk M) (w : Wd M a) : iF M a g M := ⟨Mv.refl hO w (itP_lt w), fun _ _ _ _ => rfl⟩
theorem iF.trans (h : iF M a g M2) (k : iF M2 a g M3) : iF M a g M3 := ⟨h.1.trans k.1, fun i i1 i2 i3 => (k.2 i i1 i2 i3).trans (h.2 i i1 i2 i3)⟩
theorem iF.mk (w : Wd M a) (m : Mv P S M a M') (hP : ∀ q, P q → itP a g q) (hS : ∀ x, S x → itS a g x) (hf : ∀ i, i ≠ 16 → i ≠ 17 → i ≠ 23 → mI M' a i = mI M a i) : iF M a g M' := ⟨m.mono hP hS (itP_lt w), hf⟩
theorem EO.it {F : Prop} {R W T : Nat} (w : Wd M a) (h : EO F M a g R W T M') : iF M a g M' := by
  refine iF.mk w h.1 (fun q hq => ⟨by rw [hq]; exact n99, by omega⟩) (fun x hx => ?_) h.2.2
  have : x = a ∨ x = a + 97 ∨ x = a + 98 ∨ x = a + 102 ∨ x = a + 103 ∨ x = a + 104 := hx
  show x = a ∨ (g ≤ x ∧ x ≤ g + 29) ∨ (a + 97 ≤ x ∧ x ≤ a + 104)
  omega
end FR
end
section
/-! The reference: a rule item. -/
section RI
variable {G : mG} {d a g R W C Z T N K : Nat} {M M' M2 M3 : mM} {E : Eg9} {tg : Int}
/-- the draft at the end of an item -/
def Df (M : mM) (a g N T K R W C Z : Nat) (E : Eg9) (tg : Int) : Prop := Lc M a g N T K ∧ (mI M g 6 = R ∧ mI M g 12 = W ∧ mI M g 18 = C ∧ mI M g 17 = tg) ∧ (ln M (g + 30) = Z ∧ ln M (g + 32) = Z ∧ ln M (g + 34) = Z) ∧ K = R + W ∧ Dg M g R W C Z T E tg
/-- an item has been read: a fault was told, or the draft is sound -/
def itQ (M : mM) (a g N k : Nat) (M' : mM) : Prop := iF M a g M' ∧ (mI M' a 16 ≠ 0 ∨ (mI M' a 16 = 0 ∧ ∃ (T K R W C Z : Nat) (E : Eg9) (tg : Int), Df M' a g N T K R W C Z E tg ∧ T ≤ k ∧ Z ≤ k))
theorem st_it {c p : Int} {k : Nat} (w : Wd M a) (hc : c ≠ 0) (h : Mv (fun _ => False) (fun x => x = a) M a M' ∧ mI M' a 16 = c ∧ mI M' a 17 = p ∧ ∀ i, i ≠ 16 → i ≠ 17 → mI M' a i = mI M a i) : itQ M a g N k M' :=
  ⟨iF.mk w h.1 (fun q z => z.elim) (fun x z => Or.inl z) (fun i i1 i2 _ => h.2.2.2 i i1 i2), Or.inl (by rw [h.2.1]; exact hc)⟩
/-- a name is known -/
theorem Lc.kn {u v x : Int} (h : Lc M a g N T K) (hK : K < 200) (m : Mv (knP a) (fun _ => False) M a M') (l : ln M' (a + 85) = (K + 1 : Nat) ∧ ln M' (a + 87) = (K + 1 : Nat) ∧ ln M' (a + 89) = (K + 1 : Nat)) (o : ∀ j, j < K → nt M' (a + 85) j = nt M (a + 85) j ∧ nt M' (a + 87) j = nt M (a + 87) j ∧ nt M' (a + 89) j = nt M (a + 89) j) (e1 : nt M' (a + 85) K = u) (e2 : nt M' (a + 87) K = v) (e3 : nt M' (a + 89) K = x) (hu : 0 ≤ u ∧ u < N) (hv : (v = 3 ∧ 0 ≤ x ∧ x < mI M g 12) ∨ ((v = 1 ∨ v = 2) ∧ 0 ≤ x ∧ x < mI M g 6)) (h1 : v = 1 → mI M (g + 13) x.toNat = 0) : Lc M' a g N T (K + 1) ∧ mI M' g = mI M g ∧ mI M' a = mI M a := by
  obtain ⟨hO, hx, hnm, hd, h10, hg, hB, hT⟩ := h
  have w := hx.1.1
  have hin : ∀ q, knP a q → q ∈ nums a := fun q hq => knP_in hq
  have a0 := goff0 hg
  have gI := m.cell w hin a0.1 a0.2.1 a0.2.2.1 (fun z => z)
  have o13 := goffx (i := 13) hg (by decide) (by decide)
  have g13 := m.cell w hin o13.1 o13.2.1 o13.2.2 (fun z => z)
  have h2 : ¬ knP a (mR M a 2) := by
    rcases w.1.2.1 with y | y <;> rw [y.2] <;> omega
  refine ⟨⟨m.1, hx.mv m hin (by omega) (by omega) (by omega) h2, ⟨l.1, l.2.1, l.2.2, by omega, fun k hk => ?_⟩, fun q hq => ?_, by rw [m.rfl_a w hin]; exact h10, hg, by rw [gI]; exact hB, hT⟩, gI, (m.fld w hin (fun z => z)).1⟩
  · rw [gI, g13]
    by_cases z : k = K
    · rw [z, e1, e2, e3]
      exact ⟨hu, hv, h1⟩
    · obtain ⟨o1, o2, o3⟩ := o k (by omega)
      rw [o1, o2, o3]
      exact hnm.2.2.2.2 k (by omega)
  · have hq' : q = g + 1 ∨ q = g + 3 ∨ q = g + 5 ∨ q = g + 7 ∨ q = g + 9 ∨ q = g + 11 := hq
    rw [(m.lst (tL_in hg hq) (by omega)).1]
    exact hd q hq
theorem ge_kn (w : Wd M a) (hg : g = a + 13 ∨ g = a + 49) (m : Mv (knP a) (fun _ => False) M a M') : Ge M g R W C Z T M' ∧ ln M' (g + 30) = ln M (g + 30) ∧ ln M' (g + 32) = ln M (g + 32) ∧ ln M' (g + 34) = ln M (g + 34) := by
  have nn : ∀ n, so M' g n = so M g n ∧ va M' g n = va M g n ∧ fp M' g n = fp M g n ∧ np M' g n = np M g n ∧ pm M' g n = pm M g n := fun n => ⟨(m.lst (tL_in (q := g + 1) hg (tLk1 g)) (by omega)).2.1 n, (m.lst (tL_in (q := g + 7) hg (tLk7 g)) (by omega)).2.1 n, (m.lst (tL_in (q := g + 9) hg (tLk9 g)) (by omega)).2.1 n, (m.lst (tL_in (q := g + 11) hg (tLk11 g)) (by omega)).2.1 n, (m.lst (tL_in (q := g + 3) hg (tLk3 g)) (by omega)).2.1 n⟩
  exact ⟨ge_mv w hg m (fun q hq => knP_in hq) (by omega) (by omega) (by omega) (fun _ _ _ z => z) (fun n _ => nn n), (m.lst (n30 hg) (by omega)).1, (m.lst (n32 hg) (by omega)).1, (m.lst (n34 hg) (by omega)).1⟩
theorem knP_it {q : Nat} (h : knP a q) : itP a g q := ⟨knP_in h, by have : q = a + 85 ∨ q = a + 87 ∨ q = a + 89 := h; omega⟩
/-- the game's own numbers after a step elsewhere -/
theorem Mv.gI {P S : Nat → Prop} (m : Mv P S M a M') (w : Wd M a) (hg : g = a + 13 ∨ g = a + 49) (hin : ∀ q, P q → q ∈ nums a) (hS : ¬ S g) : mI M' g = mI M g := by
  have a0 := goff0 hg
  exact m.cell w hin a0.1 a0.2.1 a0.2.2.1 hS
end RI
end
section
/-! The reference: a rule item, to its end. -/
section RI2
variable {G : mG} {d a g R W C Z T N K : Nat} {M M' M2 M3 : mM} {E : Eg9} {tg : Int}
theorem Lc.wd {k : Nat} {Q : Int → mM → Prop} (h : Lc M a g N T K) (hk : k < N) (hQ : ∀ z, z = wk M a k → i32 z → Q z M) : Ci G y_MM_word1 (d + 1) [vr a, vi k] M Q := by
  refine (s_MM_word1 (d := d) h.1 h.2.1.1 hk).mono (fun z M1 e1 => ?_)
  obtain ⟨e1, hz⟩ := e1
  subst e1
  exact hQ z hz (by rw [hz]; exact wk32 h.1)
theorem Lc.fd {k : Nat} {Q : Int → mM → Prop} (h : Lc M a g N T K) (hk : k < N) (hQ : ∀ z : Int, -1 ≤ z → z < K → Q z M) : Ci G y_MM_find (d + 3) [vr a, vi k] M Q := by
  refine (s_MM_find (d := d) h.1 h.2.1 h.2.2.1 hk).mono (fun z M1 e1 => ?_)
  obtain ⟨e1, z1, z2⟩ := e1
  subst e1
  exact hQ z z1 z2
/-- a number of the game is stored -/
theorem gsti {i j : Nat} {v : Int} (h : Lc M a g N T K) (hv : i32 v) (hi : 13 ≤ i ∧ i ≤ 29) (f1 : frO (13 + i)) (f2 : frO (49 + i)) (h13 : i = 13 → mI M g 6 ≤ j) (e : M' = mUI M (g + i) j v) : Lc M' a g N T K ∧ iF M a g M' ∧ (mI M' g = mI M g ∧ mI M' a = mI M a) ∧ Mv (fun _ => False) (fun y => y = g + i) M a M' ∧ (∀ y k, mI M' y k = if y = g + i ∧ k = j then v else mI M y k) ∧ mL M' = mL M := by
  have hg := h.2.2.2.2.2.1
  have hB := h.2.2.2.2.2.2.1
  have w := h.2.1.1.1
  obtain ⟨m, f, l⟩ := mv_cell hv h.1 w (show a ≤ g + i by omega) (goffx hg f1 f2) e
  have no : ∀ q : Nat, False → q ∈ nums a := fun _ z => z.elim
  have gI := m.gI w hg no (by omega)
  have aI := (m.fld w no (by omega)).1
  refine ⟨h.mv m no (fun _ z => z.elim) (by rw [gI]; omega) (by rw [gI]; omega) (by rw [gI]; omega) (fun r hr => ?_), iF.mk w m (fun _ z => z.elim) (fun x z => Or.inr (Or.inl (by omega))) (fun i _ _ _ => by rw [aI]), ⟨gI, aI⟩, m, f, l⟩
  rw [f, if_neg (fun z => by
    have := h13 (by omega)
    omega)]
/-- a long of the game is stored -/
theorem gstl {i j : Nat} {v : Int} (h : Lc M a g N T K) (hv : i64 v) (hi : i = 16 ∨ i = 17) (e : M' = mUL M (g + i) j v) : Lc M' a g N T K ∧ iF M a g M' ∧ mI M' = mI M ∧ Mv (fun _ => False) (fun y => y = g + i) M a M' ∧ (∀ y k, mL M' y k = if y = g + i ∧ k = j then v else mL M y k) := by
  have hg := h.2.2.2.2.2.1
  have hB := h.2.2.2.2.2.2.1
  have w := h.2.1.1.1
  obtain ⟨m, f, l⟩ := mv_ul hv h.1 w e
  have no : ∀ q : Nat, False → q ∈ nums a := fun _ z => z.elim
  exact ⟨h.mv m no (fun _ z => z.elim) (by rw [l]; omega) (by rw [l]; omega) (by rw [l]; omega) (fun r hr => by rw [l]), iF.mk w m (fun _ z => z.elim) (fun x z => Or.inr (Or.inl (by omega))) (fun i _ _ _ => by rw [l]), l, m, f⟩
theorem rlP_it {q : Nat} (hg : g = a + 13 ∨ g = a + 49) (h : rlP a g q) : itP a g q := by
  refine ⟨rlP_in hg h, ?_⟩
  have : ((q = g + 1 ∨ q = g + 3 ∨ q = g + 5 ∨ q = g + 7 ∨ q = g + 9 ∨ q = g + 11) ∨ q = a + 91) ∨ (q = a + 93 ∨ q = a + 95 ∨ q = g + 7) := h
  omega
/-- a rule has been read: what is the same -/
theorem rlR.ge {co r : Int} {T' : Nat} (hL : Lc M a g N T K) (h : rlR co M a g N T K T' r M3) : iF M a g M3 ∧ (mI M3 a 16 = 0 → (∀ n, n < T → pm M3 g n = pm M g n) → Ge M g R W C Z T M3) ∧ ln M3 (g + 30) = ln M (g + 30) ∧ ln M3 (g + 32) = ln M (g + 32) ∧ ln M3 (g + 34) = ln M (g + 34) := by
  obtain ⟨R1, R2, R3, R4, R5, R6⟩ := h
  have hg := hL.2.2.2.2.2.1
  have w := hL.2.1.1.1
  have hin : ∀ q, rlP a g q → q ∈ nums a := fun q hq => rlP_in hg hq
  have no : ∀ i, 30 ≤ i → i ≤ 34 → ¬ rlP a g (g + i) := fun i i1 i2 z => by
    have : ((g + i = g + 1 ∨ g + i = g + 3 ∨ g + i = g + 5 ∨ g + i = g + 7 ∨ g + i = g + 9 ∨ g + i = g + 11) ∨ g + i = a + 91) ∨ (g + i = a + 93 ∨ g + i = a + 95 ∨ g + i = g + 7) := z
    omega
  refine ⟨iF.mk w R1 (fun q hq => rlP_it hg hq) (fun x hx => Or.inl hx) (fun i i1 i2 _ => R3 i i1 i2), fun z hp => ?_, (R1.lst (n30 hg) (no 30 (by omega) (by omega))).1, (R1.lst (n32 hg) (no 32 (by omega) (by omega))).1, (R1.lst (n34 hg) (no 34 (by omega) (by omega))).1⟩
  rcases R6 with y | ⟨-, -, y⟩
  · exact absurd z y
  · exact ge_mv w hg R1 hin (no 30 (by omega) (by omega)) (no 34 (by omega) (by omega)) (no 32 (by omega) (by omega)) (fun i i1 i2 (z : g + i = a) => by omega) (fun n hn => ⟨(y n hn).1, (y n hn).2.1, (y n hn).2.2.1, (y n hn).2.2.2, hp n hn⟩)
/-- after working out, the draft's words, names and nodes -/
theorem EO.lc {F : Prop} {R' W' T' : Nat} (h : Lc M a g N T K) (k : EO F M a g R' W' T' M') : Lc M' a g N T K ∧ mI M' g = mI M g ∧ Ge M g R W C Z T M' ∧ ln M' (g + 30) = ln M (g + 30) ∧ ln M' (g + 32) = ln M (g + 32) ∧ ln M' (g + 34) = ln M (g + 34) := by
  have hg := h.2.2.2.2.2.1
  have hB := h.2.2.2.2.2.2.1
  have w := h.2.1.1.1
  have hin : ∀ q, q = a + 99 → q ∈ nums a := fun q hq => by rw [hq]; exact n99
  have ns : ∀ i, i ≤ 29 → ¬ woS a (g + i) := fun i i1 z => by
    have : g + i = a ∨ g + i = a + 97 ∨ g + i = a + 98 ∨ g + i = a + 102 ∨ g + i = a + 103 ∨ g + i = a + 104 := z
    omega
  have gI := k.1.gI w hg hin (ns 0 (by omega))
  have gs := k.gs w
  exact ⟨h.mv k.1 hin (fun q hq => by omega) (by rw [gI]; omega) (by rw [gI]; omega) (by rw [gI]; omega) (fun r _ => by rw [gs.1]), gI, ge_mv w hg k.1 hin (by omega) (by omega) (by omega) (fun i _ i2 => ns i i2) (fun n _ => ⟨(k.nod n).1, (k.nod n).2.1, (k.nod n).2.2.1, (k.nod n).2.2.2, (k.1.lst (tL_in (q := g + 3) hg (tLk3 g)) (by omega)).2.1 n⟩), (k.1.lst (n30 hg) (by omega)).1, (k.1.lst (n32 hg) (by omega)).1, (k.1.lst (n34 hg) (by omega)).1⟩
end RI2
end
section
/-! The reference: ruleItem. -/
section RI3
variable {G : mG} {d a g R W C Z T N K : Nat} {M : mM} {E : Eg9} {tg : Int}
/-- a new rule's numbers are stored -/
def riS (M : mM) (a g N T K R W C Z T' f : Nat) (co v6 x3 : Int) (M6 : mM) : Prop := Lc M6 a g N T' K ∧ iF M a g M6 ∧ mI M6 g = mI M g ∧ (ln M6 (g + 30) = ln M (g + 30) ∧ ln M6 (g + 32) = ln M (g + 32) ∧ ln M6 (g + 34) = ln M (g + 34)) ∧ Ge M g R W C Z T M6 ∧ mI M6 (g + 13) R = v6 ∧ mI M6 (g + 15) R = (T : Int) ∧ tn M6 g R = x3 ∧ ∀ F : Prop, (co = 0 → F) → Ty (nme F M6 g R W) (tn M6 g) M6 g f 0 T T' (fun _ => x3)
theorem ri_a {T' : Nat} {co v6 x3 : Int} {M3 M4 M5 M6 : mM} (h : Df M a g N T K R W C Z E tg) (hR : R < 60) (t1 : T < T') (Rl : rlR co M a g N T K T' x3 M3) (z16 : mI M3 a 16 = 0) (hp : ∀ n, n < T → pm M3 g n = pm M g n) (c6 : v6 = 0 ∨ v6 = 1) (e4 : M4 = mUI M3 (g + 13) R v6) (e5 : M5 = mUI M4 (g + 14) R x3) (e6 : M6 = mUI M5 (g + 15) R (T : Int)) : (∃ f, riS M a g N T K R W C Z T' f co v6 x3 M6) ∧ Lc M4 a g N T' K ∧ Lc M5 a g N T' K := by
  obtain ⟨hL, ⟨g6, g12, g18, g17⟩, -, -, hD⟩ := h
  have hg := hL.2.2.2.2.2.1
  have hBd := hD.1.1
  have hT3 := Rl.2.1.2.2.2.2.2.2.2
  obtain ⟨I3, G3, z30, z32, z34⟩ := rlR.ge (R := R) (W := W) (C := C) (Z := Z) hL Rl
  have G3 := G3 z16 hp
  obtain ⟨-, R2, -, R4, R5, R6⟩ := Rl
  have gI3 : mI M3 g = mI M g := R4
  obtain ⟨f, ty⟩ : ∃ f, Ty (nmr co M g) (tn M g) M3 g f 0 T T' (fun _ => x3) := by
    rcases R6 with y | ⟨-, y, -⟩
    · exact absurd z16 y
    · exact y
  clear R6
  have g63 : mI M3 g 6 ≤ R := by rw [gI3, g6]; omega
  obtain ⟨L4, I4, ⟨gI4, aI4⟩, m4, f4, l4⟩ := gsti R2 (i := 13) (i32s (by omega) (by omega)) (by omega) (by decide) (by decide) (fun _ => g63) e4
  have G4 := ge_st (R := R) (W := W) (C := C) (Z := Z) (T := T') hg m4 f4 l4 (fun _ => Nat.le_refl R) (by omega) (by omega) (by omega)
  obtain ⟨L5, I5, ⟨gI5, aI5⟩, m5, f5, l5⟩ := gsti L4 (i := 14) (i32s (by omega) (by omega)) (by omega) (by decide) (by decide) (fun z => by omega) e5
  have G5 := ge_st (R := R) (W := W) (C := C) (Z := Z) (T := T') hg m5 f5 l5 (fun _ => Nat.le_refl R) (by omega) (by omega) (by omega)
  obtain ⟨L6, I6, ⟨gI6, aI6⟩, m6, f6, l6⟩ := gsti L5 (i := 15) (i32s (by omega) (by omega)) (by omega) (by decide) (by decide) (fun z => by omega) e6
  have G6 := ge_st (R := R) (W := W) (C := C) (Z := Z) (T := T') hg m6 f6 l6 (fun _ => Nat.le_refl R) (by omega) (by omega) (by omega)
  have G36 := (G4.trans G5).trans G6
  have G06 := G3.trans (G36.down (Nat.le_refl _) (Nat.le_refl _) (Nat.le_refl _) (Nat.le_refl _) (Nat.le_of_lt t1))
  have c13 : mI M6 (g + 13) R = v6 := by rw [f6, if_neg (fun z => by omega), f5, if_neg (fun z => by omega), f4, if_pos ⟨rfl, rfl⟩]
  have c14 : mI M6 (g + 14) R = x3 := by rw [f6, if_neg (fun z => by omega), f5, if_pos ⟨rfl, rfl⟩]
  have c15 : mI M6 (g + 15) R = (T : Int) := by rw [f6, if_pos ⟨rfl, rfl⟩]
  have tn6 : tn M6 g R = x3 := by
    unfold tn
    rw [if_neg (show ¬ (100 : Int) ≤ (R : Int) by omega), Int.toNat_natCast, c14]
    split <;> omega
  have gI06 : mI M6 g = mI M g := by rw [gI6, gI5, gI4, gI3]
  have y0 : ∀ {q}, q ∈ nums a → ln M6 q = ln M3 q := fun hq => by rw [(m6.lst hq (fun z => z)).1, (m5.lst hq (fun z => z)).1, (m4.lst hq (fun z => z)).1]
  refine ⟨⟨f, L6, ((I3.trans I4).trans I5).trans I6, gI06, ⟨by rw [y0 (n30 hg), z30], by rw [y0 (n32 hg), z32], by rw [y0 (n34 hg), z34]⟩, G06, c13, c15, tn6, fun F hF => ?_⟩, L4, L5⟩
  clear c13 c14 c15 tn6 y0 f4 f5 f6 m4 m5 m6 L4 L5 L6 I3 I4 I5 I6 l4 l5 l6 G4 G5 G6 G3
  refine (ty.mono (nm' := nme F M6 g R W) (w' := tn M6 g) (fun v hv => ?_)).fr (fun n _ n2 => ⟨(G36.1.1 n n2).1, (G36.1.1 n n2).2.1, (G36.1.1 n n2).2.2.1⟩) (fun n _ n2 => (G36.1.1 n n2).2.2.2.1) (fun z => absurd rfl z)
  unfold nmr at hv
  rw [g6, g12] at hv
  rcases hv with ⟨h1, h2, h3, h4⟩ | ⟨h1, h2, h3, h4⟩
  · have gt := G06.1.tr (r := v.toNat) hBd (by omega)
    rw [show ((v.toNat : Nat) : Int) = v by first | rfl | omega] at gt
    refine ⟨Or.inl ⟨h1, h2, ?_⟩, gt⟩
    by_cases z : co = 0
    · exact Or.inl (hF z)
    · right
      rw [(G06.1.2.1 v.toNat (by omega)).1]
      exact h4 z
  · exact ⟨Or.inr ⟨hF h1, h2, h3⟩, G06.1.tv h2 h3⟩
end RI3
end
section
/-! The reference: whole numbers and first values of variables. -/
section VI
variable {G : mG} {d a g R W C Z T N K : Nat} {M M2 M3 : mM} {E : Eg9} {F : Prop}
theorem rwd_all {w : Nat → Int} {c i j m : Nat} (h : Eo w c i j) (h1 : i ≤ m) (h2 : m < j) : rwd (w m) := by
  have := (h.pr.2.2.2.2.1.2.2.2 (m - i) (by omega)).1
  rw [show i + (m - i) = m by first | rfl | omega] at this
  exact this
theorem s_MM_initOf {p i e : Nat} (h : Lc M a g N T K) (h1 : p ≤ i) (h2 : i ≤ e) (he : e < N) (hn : ∀ m, p ≤ m → m < i → wk M a m ≠ 9) (hi : i = e ∨ wk M a i = 9) : Ci G y_MM_initOf (d + 2) [vr a, vi p, vi e] M (fun x M' => M' = M ∧ x = i) := by
  have hN := h.2.1.1.2.2
  have w := h.2.1.1.1
  refine k_MM_initOf h.1 (i32s (by omega) (by omega)) (i32s (by omega) (by omega)) ?_
  suffices H : ∀ (c m : Nat), m + c = i → p ≤ m → h_MM_initOf_2 G (d + 1) a e m M (fun x M' => M' = M ∧ x = i) from H (i - p) p (by omega) (Nat.le_refl _)
  intro c
  induction c with
  | zero =>
    intro m hm hp
    have e1 : m = i := by omega
    subst e1
    refine k_MM_initOf_2 h.1 (i32s (by omega) (by omega)) (i32s (by omega) (by omega)) ⟨fun _ => ⟨rfl, rfl⟩, fun q => ⟨w.1.1, h.wd (d := d) (by omega) (fun z hz iz => ⟨iz, h.1, fun _ => ⟨rfl, rfl⟩, fun q2 => ?_⟩)⟩⟩
    rcases hi with y | y
    · omega
    · exact absurd (hz.trans y) q2
  | succ c ih =>
    intro m hm hp
    refine k_MM_initOf_2 h.1 (i32s (by omega) (by omega)) (i32s (by omega) (by omega)) ⟨fun q => by omega, fun q => ⟨w.1.1, h.wd (d := d) (by omega) (fun z hz iz => ⟨iz, h.1, fun q2 => absurd (hz.symm.trans q2) (hn m hp (by omega)), fun q2 => ?_⟩)⟩⟩
    have := ih (m + 1) (by omega) (by omega)
    rw [show ((m + 1 : Nat) : Int) = (m : Int) + 1 by first | rfl | omega] at this
    exact this
theorem nme.wk {v : Int} {b : Nat} (h : nme F M g b W v) : nme True M g b W v := by
  rcases h with ⟨h1, h2, -⟩ | ⟨-, h⟩
  · exact Or.inl ⟨h1, h2, Or.inl trivial⟩
  · exact Or.inr ⟨trivial, h⟩
theorem Gn.nm {v : Int} {b : Nat} (h : Gn M g R W T M2) (hb : b ≤ R) (hv : nme F M g b W v) : nme F M2 g b W v := by
  rcases hv with ⟨h1, h2, h3⟩ | h'
  · refine Or.inl ⟨h1, h2, h3.imp (fun z => z) (fun z => ?_)⟩
    rw [(h.2.1 v.toNat (by omega)).1]
    exact z
  · exact Or.inr h'
/-- a rule made of constants alone -/
def Cte (M : mM) (g R W T n : Nat) (t : Int) : Prop := ∃ f e : Nat, Ty (nme False M g R W) (tn M g) M g f 0 n e (fun _ => t) ∧ e ≤ T
theorem Cte.gn {n : Nat} {t : Int} (h : Cte M g R W T n t) (k : Gn M g R W T M2) (hR : R ≤ 60) : Cte M2 g R W T n t := by
  obtain ⟨f, e, h1, h2⟩ := h
  exact ⟨f, e, (h1.mono (nm' := nme False M2 g R W) (w' := tn M2 g) (fun v hv => ⟨k.nm (Nat.le_refl _) hv, k.tnm hR hv.wk (Nat.le_refl _)⟩)).fr (fun n _ n2 => ⟨(k.1 n (by omega)).1, (k.1 n (by omega)).2.1, (k.1 n (by omega)).2.2.1⟩) (fun n _ n2 => (k.1 n (by omega)).2.2.2.1) (fun z => absurd rfl z), h2⟩
theorem Cte.up {n T' : Nat} {t : Int} (h : Cte M g R W T n t) (hT : T ≤ T') : Cte M g R W T' n t := by
  obtain ⟨f, e, h1, h2⟩ := h
  exact ⟨f, e, h1, by omega⟩
end VI
end
section
/-! The reference: a variable item, its end. -/
section VI2
variable {G : mG} {d a g R W C Z T T2 T3 N K : Nat} {M M2 M3 : mM} {E : Eg9} {tg bl : Int}
/-- inside a variable item -/
def vI (M : mM) (a g N T K R W C Z : Nat) (bl : Int) (T2 : Nat) (M2 : mM) : Prop := Lc M2 a g N T2 K ∧ iF M a g M2 ∧ mI M2 g = mI M g ∧ (ln M2 (g + 30) = ln M (g + 30) ∧ ln M2 (g + 32) = ln M (g + 32) ∧ ln M2 (g + 34) = ln M (g + 34)) ∧ mI M2 (g + 18) W = bl ∧ T ≤ T2 ∧ Ge M g R W C Z T M2
theorem vI.step (h : vI M a g N T K R W C Z bl T2 M2) (hT : T2 ≤ T3) (L3 : Lc M3 a g N T3 K) (I : iF M2 a g M3) (gI : mI M3 g = mI M2 g) (z : ln M3 (g + 30) = ln M2 (g + 30) ∧ ln M3 (g + 32) = ln M2 (g + 32) ∧ ln M3 (g + 34) = ln M2 (g + 34)) (c18 : mI M3 (g + 18) W = mI M2 (g + 18) W) (k : Ge M2 g R W C Z T2 M3) : vI M a g N T K R W C Z bl T3 M3 := by
  obtain ⟨-, h2, h3, h4, h5, h6, h7⟩ := h
  exact ⟨L3, h2.trans I, gI.trans h3, ⟨z.1.trans h4.1, z.2.1.trans h4.2.1, z.2.2.trans h4.2.2⟩, c18.trans h5, by omega, h7.trans (k.down (Nat.le_refl _) (Nat.le_refl _) (Nat.le_refl _) (Nat.le_refl _) h6)⟩
theorem vI.rl {co r : Int} (h : vI M a g N T K R W C Z bl T2 M2) (hT : T2 ≤ T3) (q : rlR co M2 a g N T2 K T3 r M3) (z : mI M3 a 16 = 0) (hp : ∀ n, n < T2 → pm M3 g n = pm M2 g n) : vI M a g N T K R W C Z bl T3 M3 := by
  obtain ⟨I3, G3, z3⟩ := rlR.ge (R := R) (W := W) (C := C) (Z := Z) h.1 q
  have hg := h.1.2.2.2.2.2.1
  have o18 := goffx (i := 18) hg (by decide) (by decide)
  have c18 := q.1.cell h.1.2.1.1.1 (fun q hq => rlP_in hg hq) o18.1 o18.2.1 o18.2.2 (by omega)
  exact h.step hT q.2.1 I3 q.2.2.2.1 z3 (by rw [c18]) (G3 z hp)
theorem vI.eo {F : Prop} {R' W' T' : Nat} (h : vI M a g N T K R W C Z bl T2 M2) (k : EO F M2 a g R' W' T' M3) : vI M a g N T K R W C Z bl T2 M3 := by
  obtain ⟨L3, g3, G3, z3⟩ := k.lc (R := R) (W := W) (C := C) (Z := Z) h.1
  have w2 := h.1.2.1.1.1
  exact h.step (Nat.le_refl _) L3 (k.it w2) g3 z3 (by rw [(k.gs w2).2.2.2.1]) G3
theorem vI.st {i : Nat} {v : Int} (h : vI M a g N T K R W C Z bl T2 M2) (hv : i32 v) (hi : i = 19 ∨ i = 20 ∨ i = 21) (f1 : frO (13 + i)) (f2 : frO (49 + i)) (e : M3 = mUI M2 (g + i) W v) : vI M a g N T K R W C Z bl T2 M3 ∧ (∀ y k, mI M3 y k = if y = g + i ∧ k = W then v else mI M2 y k) ∧ mI M3 a = mI M2 a := by
  obtain ⟨L3, I3, ⟨g3, a3⟩, m3, f3, l3⟩ := gsti h.1 hv (by omega) f1 f2 (fun z => by omega) e
  have hg := h.1.2.2.2.2.2.1
  have G3 := ge_st (R := R) (W := W) (C := C) (Z := Z) (T := T2) hg m3 f3 l3 (by omega) (fun _ _ => Nat.le_refl W) (by omega) (by omega)
  refine ⟨h.step (Nat.le_refl _) L3 I3 g3 ⟨(m3.lst (n30 hg) (fun z => z)).1, (m3.lst (n32 hg) (fun z => z)).1, (m3.lst (n34 hg) (fun z => z)).1⟩ ?_ G3, f3, a3⟩
  rw [f3, if_neg (fun z => by omega)]
theorem Lc.sp {P S : Nat → Prop} (h : Lc M a g N T K) (m : Mv P S M a M2) (hP : ∀ q, P q → False) (hS : ∀ x, S x → x = a) : Lc M2 a g N T K ∧ mI M2 g = mI M g ∧ Ge M g R W C Z T M2 ∧ (ln M2 (g + 30) = ln M (g + 30) ∧ ln M2 (g + 32) = ln M (g + 32) ∧ ln M2 (g + 34) = ln M (g + 34)) ∧ mI M2 (g + 18) = mI M (g + 18) := by
  have hg := h.2.2.2.2.2.1
  have hB := h.2.2.2.2.2.2.1
  have w := h.2.1.1.1
  have hin : ∀ q, P q → q ∈ nums a := fun q hq => (hP q hq).elim
  have ns : ∀ i, i ≤ 29 → ¬ S (g + i) := fun i i1 z => by
    have := hS _ z
    omega
  have gI := m.gI w hg hin (ns 0 (by omega))
  have o13 := goffx (i := 13) hg (by decide) (by decide)
  have c13 := m.cell w hin o13.1 o13.2.1 o13.2.2 (ns 13 (by omega))
  have o18 := goffx (i := 18) hg (by decide) (by decide)
  have c18 := m.cell w hin o18.1 o18.2.1 o18.2.2 (ns 18 (by omega))
  exact ⟨h.mv m hin (fun q hq => (hP q hq).elim) (by rw [gI]; omega) (by rw [gI]; omega) (by rw [gI]; omega) (fun r _ => by rw [c13]), gI, ge_mv w hg m hin (fun z => hP _ z) (fun z => hP _ z) (fun z => hP _ z) (fun i _ i2 => ns i i2) (fun n _ => ⟨(m.lst (tL_in (q := g + 1) hg (tLk1 g)) (fun z => hP _ z)).2.1 n, (m.lst (tL_in (q := g + 7) hg (tLk7 g)) (fun z => hP _ z)).2.1 n, (m.lst (tL_in (q := g + 9) hg (tLk9 g)) (fun z => hP _ z)).2.1 n, (m.lst (tL_in (q := g + 11) hg (tLk11 g)) (fun z => hP _ z)).2.1 n, (m.lst (tL_in (q := g + 3) hg (tLk3 g)) (fun z => hP _ z)).2.1 n⟩), ⟨(m.lst (n30 hg) (fun z => hP _ z)).1, (m.lst (n32 hg) (fun z => hP _ z)).1, (m.lst (n34 hg) (fun z => hP _ z)).1⟩, c18⟩
theorem vI.sp {c p : Int} (h : vI M a g N T K R W C Z bl T2 M2) (q : Mv (fun _ => False) (fun x => x = a) M2 a M3 ∧ mI M3 a 16 = c ∧ mI M3 a 17 = p ∧ ∀ i, i ≠ 16 → i ≠ 17 → mI M3 a i = mI M2 a i) : vI M a g N T K R W C Z bl T2 M3 := by
  obtain ⟨L3, g3, G3, z3, c18⟩ := h.1.sp (R := R) (W := W) (C := C) (Z := Z) q.1 (fun _ z => z) (fun _ z => z)
  exact h.step (Nat.le_refl _) L3 (iF.mk h.1.2.1.1.1 q.1 (fun _ z => z.elim) (fun x z => Or.inl z) (fun i i1 i2 _ => q.2.2.2 i i1 i2)) g3 z3 (by rw [c18]) G3
theorem vI.ev (h : vI M a g N T K R W C Z bl T2 M2) (hD : Dg M g R W C Z T E tg) (hT : T2 ≤ 16384) : Ev False M2 a g R W T2 := by
  obtain ⟨L, -, -, -, -, -, G⟩ := h
  have D := hD.ge G
  exact ⟨L.1, L.2.1.1.1, L.2.2.2.2.2.1, L.2.2.2.1, ⟨D.1.1, D.1.2.1, hT⟩, fun r hr => ⟨D.2.1 r hr, fun z => z.elim⟩, fun z => z.elim⟩
end VI2
end
section
/-! The reference: a variable item, its range. -/
section VI3
variable {G : mG} {d a g R W C Z T T2 T3 N K : Nat} {M M2 M3 : mM} {E : Eg9} {tg bl : Int}
theorem vst_ge {i : Nat} {v : Int} (h : Lc M2 a g N T2 K) (hv : i32 v) (hi : 18 ≤ i ∧ i ≤ 21) (f1 : frO (13 + i)) (f2 : frO (49 + i)) (e : M3 = mUI M2 (g + i) W v) : Ge M2 g R W C Z T2 M3 := by
  obtain ⟨L3, I3, ⟨g3, a3⟩, m3, f3, l3⟩ := gsti h hv (by omega) f1 f2 (fun z => by omega) e
  exact ge_st h.2.2.2.2.2.1 m3 f3 l3 (by omega) (fun _ _ => Nat.le_refl W) (by omega) (by omega)
theorem vI.new (h : Df M a g N T K R W C Z E tg) (hb : bl = 0 ∨ bl = 1) (e : M2 = mUI M (g + 18) W bl) : vI M a g N T K R W C Z bl T M2 ∧ mI M2 a = mI M a := by
  have ib : i32 bl := i32s (by omega) (by omega)
  have hg := h.1.2.2.2.2.2.1
  have G2 := vst_ge (R := R) (C := C) (Z := Z) (i := 18) h.1 ib (by omega) (by decide) (by decide) e
  obtain ⟨L3, I3, ⟨g3, a3⟩, m3, f3, l3⟩ := gsti (i := 18) h.1 ib (by omega) (by decide) (by decide) (fun z => by omega) e
  exact ⟨⟨L3, I3, g3, ⟨(m3.lst (n30 hg) (fun z => z)).1, (m3.lst (n32 hg) (fun z => z)).1, (m3.lst (n34 hg) (fun z => z)).1⟩, by rw [f3, if_pos ⟨rfl, rfl⟩], Nat.le_refl _, G2⟩, a3⟩
theorem iF.wk (h : iF M a g M2) (hg : g = a + 13 ∨ g = a + 49) : wk M2 a = wk M a := by
  funext k
  exact (h.1.lst n5 (fun z => by have := z.2; omega)).2.1 k
end VI3
end
section
/-! The reference: varItem. -/
section VI4
variable {G : mG} {d a g R W C Z T T2 N K : Nat} {M M2 : mM} {E : Eg9} {tg : Int}
theorem Lc.ub {i j : Nat} {s : Int} {Q : Int → mM → Prop} (h : Lc M a g N T K) (hij : i ≤ j) (hb : Bl (wk M a) i (j - i)) (hj : j < N) (h1 : wk M a j = s) (hs : s = 16 ∨ s = 17 ∨ s = 33) (hQ : Q j M) : Ci G y_MM_until (d + 2) [vr a, vi i, vi s] M Q := by
  refine (s_until_bl (d := d) h.1 h.2.1.1 hij hb hj h1 hs).mono (fun x M1 e1 => ?_)
  obtain ⟨e1, hx⟩ := e1
  subst e1
  rw [hx]
  exact hQ
theorem Lc.io {p i e : Nat} {Q : Int → mM → Prop} (h : Lc M a g N T K) (h1 : p ≤ i) (h2 : i ≤ e) (he : e < N) (hn : ∀ m, p ≤ m → m < i → wk M a m ≠ 9) (hi : i = e ∨ wk M a i = 9) (hQ : Q i M) : Ci G y_MM_initOf (d + 2) [vr a, vi p, vi e] M Q := by
  refine (s_MM_initOf (d := d) h h1 h2 he hn hi).mono (fun x M1 e1 => ?_)
  obtain ⟨e1, hx⟩ := e1
  subst e1
  rw [hx]
  exact hQ
theorem vI.g6 {bl : Int} (v : vI M a g N T K R W C Z bl T2 M2) (h : Df M a g N T K R W C Z E tg) : mI M2 g 6 = R := by rw [v.2.2.1]; exact h.2.1.1
end VI4
end
section
/-! The reference: a set. -/
section SI
variable {G : mG} {d a g R W C Z T T2 T3 Z2 N K : Nat} {M M' M2 M3 : mM} {E : Eg9} {tg : Int} {P S : Nat → Prop}
theorem ge_mvl (w : Wd M a) (hg : g = a + 13 ∨ g = a + 49) (m : Mv P S M a M') (hin : ∀ q, P q → q ∈ nums a) (h30 : ∀ i : Nat, i < Z → nt M' (g + 30) i = nt M (g + 30) i) (h34 : ∀ i : Nat, i < Z → nt M' (g + 34) i = nt M (g + 34) i) (h32 : ∀ i : Nat, i < Z → nt M' (g + 32) i = nt M (g + 32) i) (hS : ∀ i, 13 ≤ i → i ≤ 29 → ¬ S (g + i)) (hn : ∀ n, n < T → so M' g n = so M g n ∧ va M' g n = va M g n ∧ fp M' g n = fp M g n ∧ np M' g n = np M g n ∧ pm M' g n = pm M g n) : Ge M g R W C Z T M' := by
  have c22 := m.cellL w hin (goffx (i := 22) hg (by decide) (by decide)) (hS 22 (by omega) (by omega))
  have c23 := m.cellL w hin (goffx (i := 23) hg (by decide) (by decide)) (hS 23 (by omega) (by omega))
  have c27 := m.cellL w hin (goffx (i := 27) hg (by decide) (by decide)) (hS 27 (by omega) (by omega))
  have c13 := m.cellL w hin (goffx (i := 13) hg (by decide) (by decide)) (hS 13 (by omega) (by omega))
  have c14 := m.cellL w hin (goffx (i := 14) hg (by decide) (by decide)) (hS 14 (by omega) (by omega))
  have c15 := m.cellL w hin (goffx (i := 15) hg (by decide) (by decide)) (hS 15 (by omega) (by omega))
  have c16 := m.cellL w hin (goffx (i := 16) hg (by decide) (by decide)) (hS 16 (by omega) (by omega))
  have c17 := m.cellL w hin (goffx (i := 17) hg (by decide) (by decide)) (hS 17 (by omega) (by omega))
  have c18 := m.cellL w hin (goffx (i := 18) hg (by decide) (by decide)) (hS 18 (by omega) (by omega))
  have c19 := m.cellL w hin (goffx (i := 19) hg (by decide) (by decide)) (hS 19 (by omega) (by omega))
  have c20 := m.cellL w hin (goffx (i := 20) hg (by decide) (by decide)) (hS 20 (by omega) (by omega))
  have c21 := m.cellL w hin (goffx (i := 21) hg (by decide) (by decide)) (hS 21 (by omega) (by omega))
  have c24 := m.cellL w hin (goffx (i := 24) hg (by decide) (by decide)) (hS 24 (by omega) (by omega))
  have c25 := m.cellL w hin (goffx (i := 25) hg (by decide) (by decide)) (hS 25 (by omega) (by omega))
  have c26 := m.cellL w hin (goffx (i := 26) hg (by decide) (by decide)) (hS 26 (by omega) (by omega))
  have c28 := m.cellL w hin (goffx (i := 28) hg (by decide) (by decide)) (hS 28 (by omega) (by omega))
  have c29 := m.cellL w hin (goffx (i := 29) hg (by decide) (by decide)) (hS 29 (by omega) (by omega))
  exact ⟨⟨hn, fun r _ => ⟨by rw [c13.1], by rw [c14.1]⟩, fun v _ => by rw [c18.1]⟩, fun r _ => ⟨by rw [c15.1], by rw [c16.2], by rw [c17.2]⟩, fun v _ => ⟨by rw [c19.1], by rw [c20.1], by rw [c21.1]⟩, fun c _ => ⟨by rw [c24.1], by rw [c25.1], fun b _ => ⟨by rw [c26.1], by rw [c28.1], by rw [c29.1], by rw [c27.1], by rw [c22.1], by rw [c23.1]⟩⟩, fun i hi => ⟨h30 i hi, h34 i hi, h32 i hi⟩⟩
/-- a set list grows -/
theorem gadd {p : Nat} {v : Int} (h : Lc M2 a g N T2 K) (hp : p = g + 30 ∨ p = g + 32 ∨ p = g + 34) (hZ : (Z : Int) ≤ ln M2 p) (t : adQ M2 p v M3) : Lc M3 a g N T2 K ∧ Mv (fun x => x = p) (fun _ => False) M2 a M3 ∧ mI M3 g = mI M2 g ∧ mI M3 a = mI M2 a ∧ Ge M2 g R W C Z T2 M3 := by
  have hg := h.2.2.2.2.2.1
  have hB := h.2.2.2.2.2.2.1
  have w := h.2.1.1.1
  have hpn : p ∈ nums a := by
    rcases hp with z | z | z <;> rw [z]
    · exact n30 hg
    · exact n32 hg
    · exact n34 hg
  have m := mv_add w hpn t
  obtain ⟨-, -, -, -, t5, -⟩ := t
  have hin : ∀ q, q = p → q ∈ nums a := fun q hq => by rw [hq]; exact hpn
  have gI := m.gI w hg hin (fun z => z)
  have o13 := goffx (i := 13) hg (by decide) (by decide)
  have c13 := m.cell w hin o13.1 o13.2.1 o13.2.2 (fun z => z)
  have nn : ∀ n, so M3 g n = so M2 g n ∧ va M3 g n = va M2 g n ∧ fp M3 g n = fp M2 g n ∧ np M3 g n = np M2 g n ∧ pm M3 g n = pm M2 g n := fun n => ⟨(m.lst (tL_in (q := g + 1) hg (tLk1 g)) (by omega)).2.1 n, (m.lst (tL_in (q := g + 7) hg (tLk7 g)) (by omega)).2.1 n, (m.lst (tL_in (q := g + 9) hg (tLk9 g)) (by omega)).2.1 n, (m.lst (tL_in (q := g + 11) hg (tLk11 g)) (by omega)).2.1 n, (m.lst (tL_in (q := g + 3) hg (tLk3 g)) (by omega)).2.1 n⟩
  refine ⟨h.mv m hin (fun q hq => by omega) (by rw [gI]; omega) (by rw [gI]; omega) (by rw [gI]; omega) (fun r _ => by rw [c13]), m, gI, (m.fld w hin (fun z => z)).1, ge_mvl w hg m hin (fun i hi => ?_) (fun i hi => ?_) (fun i hi => ?_) (fun _ _ _ z => z) (fun n _ => nn n)⟩
  · by_cases z : p = g + 30
    · rw [← z]; exact t5 i (by omega)
    · exact (m.lst (n30 hg) (fun y => z y.symm)).2.1 i
  · by_cases z : p = g + 34
    · rw [← z]; exact t5 i (by omega)
    · exact (m.lst (n34 hg) (fun y => z y.symm)).2.1 i
  · by_cases z : p = g + 32
    · rw [← z]; exact t5 i (by omega)
    · exact (m.lst (n32 hg) (fun y => z y.symm)).2.1 i
/-- the root of a rule that has been read -/
theorem rl_rt {t : Int} (hL : Lc M2 a g N T2 K) (g6 : mI M2 g 6 = R) (g12 : mI M2 g 12 = W) (hD : Dg M2 g R W C Z T2 E tg) (h : rlR 0 M2 a g N T2 K T3 t M3) (z : mI M3 a 16 = 0) (hp : ∀ n, n < T2 → pm M3 g n = pm M2 g n) : Rt M3 g R W T3 E.1 T2 t := by
  have hR := hD.1.1
  have G3 := (rlR.ge (R := R) (W := W) (C := 0) (Z := 0) hL h).2.1 z hp
  rcases h.2.2.2.2.2 with y | ⟨-, ⟨f, ty⟩, -⟩
  · exact absurd z y
  · refine ⟨T2, R, f, T3, rfl, Nat.le_refl _, fun r hr q => ?_, ty.mono (fun v hv => ?_), Nat.le_refl _⟩
    · rw [(G3.1.2.1 r hr).1] at q
      obtain ⟨n, f', -, q2, -⟩ := hD.2.2.1 r hr q
      exact q2
    · unfold nmr at hv
      rw [g6, g12] at hv
      rcases hv with ⟨h1, h2, h3, h4⟩ | ⟨-, h1, h2, h3⟩
      · have gt := G3.1.tr (r := v.toNat) hR (by omega)
        rw [show ((v.toNat : Nat) : Int) = v by first | rfl | omega] at gt
        exact ⟨Or.inl ⟨h1, h2, Or.inl trivial⟩, gt⟩
      · exact ⟨Or.inr ⟨trivial, h1, h2⟩, G3.1.tv h1 h2⟩
/-- inside a command item -/
def cI (M : mM) (a g N K R W C : Nat) (E : Eg9) (tg : Int) (T2 Z2 : Nat) (M2 : mM) : Prop := Lc M2 a g N T2 K ∧ iF M a g M2 ∧ (mI M2 g = mI M g ∧ mI M2 g 6 = R ∧ mI M2 g 12 = W) ∧ (ln M2 (g + 30) = Z2 ∧ ln M2 (g + 32) = Z2 ∧ ln M2 (g + 34) = Z2) ∧ (mI M2 a 16 = 0 → Dg M2 g R W C Z2 T2 E tg)
/-- a set has been read -/
def siQ (M : mM) (a g N K R W C : Nat) (E : Eg9) (tg : Int) (c T2 Z2 Tm : Nat) (M2 : mM) (x : Int) (M3 : mM) : Prop := (x = (c : Int) ∨ x = (c + 1 : Nat)) ∧ Mv (itP a g) (fun y => y = a) M2 a M3 ∧ ∃ T3 Z3 : Nat, cI M a g N K R W C E tg T3 Z3 M3 ∧ (T2 ≤ T3 ∧ T3 ≤ T2 + Tm ∧ Z2 ≤ Z3 ∧ Z3 ≤ Z2 + 1) ∧ (mI M3 a 16 = 0 → x = (c + 1 : Nat) ∧ Ge M2 g R W (C + 1) Z2 T2 M3)
theorem si_stop {c Tm : Nat} {cc p : Int} (h : cI M a g N K R W C E tg T2 Z2 M2) (hc : cc ≠ 0) (q : Mv (fun _ => False) (fun x => x = a) M2 a M3 ∧ mI M3 a 16 = cc ∧ mI M3 a 17 = p ∧ ∀ i, i ≠ 16 → i ≠ 17 → mI M3 a i = mI M2 a i) : siQ M a g N K R W C E tg c T2 Z2 Tm M2 c M3 := by
  obtain ⟨L2, I2, g2, z2, D2⟩ := h
  obtain ⟨L3, g3, G3, z3, c18⟩ := L2.sp (R := R) (W := W) (C := C) (Z := Z2) q.1 (fun _ z => z) (fun _ z => z)
  have w2 := L2.2.1.1.1
  have z16 : mI M3 a 16 ≠ 0 := by rw [q.2.1]; exact hc
  refine ⟨Or.inl rfl, q.1.mono (fun _ z => z.elim) (fun x z => z) (itP_lt w2), T2, Z2, ⟨L3, I2.trans (iF.mk w2 q.1 (fun _ z => z.elim) (fun x z => Or.inl z) (fun i i1 i2 _ => q.2.2.2 i i1 i2)), ⟨g3.trans g2.1, by rw [g3]; exact g2.2.1, by rw [g3]; exact g2.2.2⟩, ⟨by rw [z3.1]; exact z2.1, by rw [z3.2.1]; exact z2.2.1, by rw [z3.2.2]; exact z2.2.2⟩, fun z => absurd z z16⟩, ⟨Nat.le_refl _, by omega, Nat.le_refl _, by omega⟩, fun z => absurd z z16⟩
end SI
end
section
/-! The reference: setItem. -/
section SI2
variable {G : mG} {d a g R W C T2 Z2 N K : Nat} {M M2 M3 : mM} {E : Eg9} {tg : Int}
/-- three numbers of a set are put down -/
theorem si_add {c v T3 : Nat} {pl : Int} {Tm : Nat} {M4 M5 M6 : mM} (h : cI M a g N K R W C E tg T2 Z2 M2) (z2 : mI M2 a 16 = 0) (hv : v < W) (t1 : T2 < T3) (t2 : T3 ≤ T2 + Tm) (Rl : rlR 0 M2 a g N T2 K T3 (mI M2 (g + 18) v) M3) (hp : mI M3 a 16 = 0 → ∀ n, n < T2 → pm M3 g n = pm M2 g n) (a4 : adQ M3 (g + 30) v M4) (a5 : adQ M4 (g + 32) pl M5) (a6 : adQ M5 (g + 34) (T2 : Int) M6) : siQ M a g N K R W C E tg c T2 Z2 Tm M2 (c + 1 : Nat) M6 := by
  obtain ⟨L2, I2, ⟨g2, g6, g12⟩, ⟨z30, z32, z34⟩, D2⟩ := h
  have D2 := D2 z2
  have hg := L2.2.2.2.2.2.1
  have w2 := L2.2.1.1.1
  have hR := D2.1.1
  obtain ⟨I3, G3, y30, y32, y34⟩ := rlR.ge (R := R) (W := W) (C := C + 1) (Z := Z2) L2 Rl
  have L3 := Rl.2.1
  have g3 : mI M3 g = mI M2 g := Rl.2.2.2.1
  have m3 : Mv (itP a g) (fun y => y = a) M2 a M3 := Rl.1.mono (fun q hq => rlP_it hg hq) (fun x hx => hx) (itP_lt w2)
  have w3 := L3.2.1.1.1
  have lt3 : ∀ {p : Nat} {Mx : mM}, p = g + 30 ∨ p = g + 32 ∨ p = g + 34 → Wd Mx a → ∀ q, q = p → itP a g q := fun hp _ q hq => by
    refine ⟨?_, by omega⟩
    rw [hq]
    rcases hp with z | z | z <;> rw [z]
    · exact n30 hg
    · exact n32 hg
    · exact n34 hg
  obtain ⟨L4, m4, g4, i4, G4⟩ := gadd (R := R) (W := W) (C := C + 1) (Z := Z2) L3 (Or.inl rfl) (by rw [y30, z30]; omega) a4
  obtain ⟨L5, m5, g5, i5, G5⟩ := gadd (R := R) (W := W) (C := C + 1) (Z := Z2) L4 (Or.inr (Or.inl rfl)) (by rw [(m4.lst (n32 hg) (by omega)).1, y32, z32]; omega) a5
  have e34 : ln M5 (g + 34) = (Z2 : Int) := by rw [(m5.lst (n34 hg) (by omega)).1, (m4.lst (n34 hg) (by omega)).1, y34, z34]
  obtain ⟨L6, m6, g6', i6, G6⟩ := gadd (R := R) (W := W) (C := C + 1) (Z := Z2) L5 (Or.inr (Or.inr rfl)) (by rw [e34]; omega) a6
  have m4' : Mv (itP a g) (fun y => y = a) M3 a M4 := m4.mono (lt3 (Or.inl rfl) w3) (fun _ z => z.elim) (itP_lt w3)
  have m5' : Mv (itP a g) (fun y => y = a) M4 a M5 := m5.mono (lt3 (Or.inr (Or.inl rfl)) w3) (fun _ z => z.elim) (itP_lt m4.2.1)
  have m6' : Mv (itP a g) (fun y => y = a) M5 a M6 := m6.mono (lt3 (Or.inr (Or.inr rfl)) w3) (fun _ z => z.elim) (itP_lt m5.2.1)
  have mm := ((m3.trans m4').trans m5').trans m6'
  have iA : mI M6 a = mI M3 a := by rw [i6, i5, i4]
  have gI : mI M6 g = mI M2 g := by rw [g6', g5, g4, g3]
  have l30 : ln M6 (g + 30) = (Z2 + 1 : Nat) := by rw [(m6.lst (n30 hg) (by omega)).1, (m5.lst (n30 hg) (by omega)).1, a4.2.2.2.1, y30, z30]; omega
  have l32 : ln M6 (g + 32) = (Z2 + 1 : Nat) := by rw [(m6.lst (n32 hg) (by omega)).1, a5.2.2.2.1, (m4.lst (n32 hg) (by omega)).1, y32, z32]; omega
  have l34 : ln M6 (g + 34) = (Z2 + 1 : Nat) := by rw [a6.2.2.2.1, e34]; omega
  have t30 : nt M6 (g + 30) Z2 = (v : Int) := by
    rw [(m6.lst (n30 hg) (by omega)).2.1, (m5.lst (n30 hg) (by omega)).2.1]
    have := a4.2.2.2.2.2.1
    rw [y30, z30, Int.toNat_natCast] at this
    exact this
  have t34 : nt M6 (g + 34) Z2 = (T2 : Int) := by
    have := a6.2.2.2.2.2.1
    rw [e34, Int.toNat_natCast] at this
    exact this
  have If : iF M2 a g M6 := ⟨mm.mono (fun q hq => hq) (fun x hx => Or.inl hx) (itP_lt w2), fun i i1 i2 i3 => by rw [iA]; exact I3.2 i i1 i2 i3⟩
  have G36 := (G4.trans G5).trans G6
  have fin : mI M6 a 16 = 0 → Ge M2 g R W (C + 1) Z2 T2 M6 ∧ Dg M6 g R W C (Z2 + 1) T3 E tg := fun z => by
    rw [iA] at z
    have G3 := G3 z (hp z)
    have G26 := G3.trans (G36.down (Nat.le_refl _) (Nat.le_refl _) (Nat.le_refl _) (Nat.le_refl _) (Nat.le_of_lt t1))
    have D6 := ((D2.ge (G26.down (Nat.le_refl _) (Nat.le_refl _) (Nat.le_succ _) (Nat.le_refl _) (Nat.le_refl _))).tu (Nat.le_of_lt t1))
    have rt := (rl_rt L2 g6 g12 D2 Rl z (hp z)).gn G36.1 hR
    refine ⟨G26, D6.zu ?_⟩
    rw [t30, t34]
    refine ⟨by omega, by omega, ?_⟩
    rw [G26.1.tv (by omega) (by omega)]
    have b01 := (D2.2.2.2.1 v hv).2.2.2.2.2
    have e1 : tn M2 g (100 + (v : Int)) = mI M2 (g + 18) v := by
      unfold tn
      rw [if_pos (show (100 : Int) ≤ 100 + (v : Int) by omega), show (100 + (v : Int) - 100).toNat = v by first | rfl | omega]
      rcases b01 with y | y <;> rw [y] <;> rfl
    rw [e1]
    exact rt
  exact ⟨Or.inr rfl, mm, T3, Z2 + 1, ⟨L6, I2.trans If, ⟨gI.trans g2, by rw [gI]; exact g6, by rw [gI]; exact g12⟩, ⟨l30, l32, l34⟩, fun z => (fin z).2⟩, ⟨Nat.le_of_lt t1, t2, by omega, by omega⟩, fun z => ⟨rfl, (fin z).1⟩⟩
end SI2
end
section
/-! The reference: setItem, to its end. -/
section SI3
variable {G : mG} {d a g R W C T2 Z2 N K : Nat} {M M2 : mM} {E : Eg9} {tg : Int}
theorem Lc.rd {p j : Nat} {Q : Int → mM → Prop} {T : Nat} (h : Lc M a g N T K) (hp : p ∈ nums a) (hk : (j : Int) < ln M p) (hQ : ∀ z, z = nt M p j → i32 z → Q z M) : Ci G y_MN_at d [vr p, vi j] M Q := by
  refine (s_MN_at h.1 (h.2.1.1.1.nu hp) hk).mono (fun z M1 e1 => ?_)
  obtain ⟨e1, hz⟩ := e1
  subst e1
  exact hQ z hz (by rw [hz]; exact (h.1 _ _).1)
theorem Lc.co {k e T : Nat} {Q : Int → mM → Prop} (h : Lc M a g N T K) (hk : k < e) (he : e < N) (h1 : ∀ t, 1 ≤ t → t ≤ e - k → 1 ≤ dp (wk M a) k t) (h2 : dp (wk M a) k (e + 1 - k) = 0) (hQ : Q e M) : Ci G y_MM_closeOf (d + 2) [vr a, vi k] M Q := by
  refine (s_MM_closeOf (d := d) h.1 h.2.1.1 hk he (fun t t1 t2 => by have := h1 t t1 t2; omega) (by rw [show e - k + 1 = e + 1 - k by first | rfl | omega, h2]; omega)).mono (fun x M1 e1 => ?_)
  obtain ⟨e1, hx⟩ := e1
  subst e1
  rw [hx]
  exact hQ
end SI3
end
section
/-! The reference: a branch, its sets and its end. -/
section BR
variable {G : mG} {d a g R W C T2 Z2 N K : Nat} {M M2 M3 : mM} {E : Eg9} {tg : Int}
/-- a number of the command that is being read -/
theorem cI.st {i j : Nat} {v : Int} (h : cI M a g N K R W C E tg T2 Z2 M2) (hv : i32 v) (hi : 22 ≤ i ∧ i ≤ 29) (hj : (i ≤ 25 → C ≤ j) ∧ (26 ≤ i → 8 * C ≤ j)) (f1 : frO (13 + i)) (f2 : frO (49 + i)) (e : M3 = mUI M2 (g + i) j v) : cI M a g N K R W C E tg T2 Z2 M3 ∧ (∀ y k, mI M3 y k = if y = g + i ∧ k = j then v else mI M2 y k) ∧ mI M3 a = mI M2 a ∧ Gn M2 g R W T2 M3 := by
  obtain ⟨L2, I2, g2, z2, D2⟩ := h
  obtain ⟨L3, I3, ⟨g3, a3⟩, m3, f3, l3⟩ := gsti L2 hv (by omega) f1 f2 (fun z => by omega) e
  have hg := L2.2.2.2.2.2.1
  have G3 := ge_st (R := R) (W := W) (C := C) (Z := Z2) (T := T2) hg m3 f3 l3 (by omega) (by omega) (fun _ z => hj.1 z) (fun z => hj.2 z)
  exact ⟨⟨L3, I2.trans I3, ⟨g3.trans g2.1, by rw [g3]; exact g2.2.1, by rw [g3]; exact g2.2.2⟩, ⟨by rw [(m3.lst (n30 hg) (fun z => z)).1]; exact z2.1, by rw [(m3.lst (n32 hg) (fun z => z)).1]; exact z2.2.1, by rw [(m3.lst (n34 hg) (fun z => z)).1]; exact z2.2.2⟩, fun z => (D2 (by rw [← a3]; exact z)).ge G3⟩, f3, a3, G3.1⟩
/-- inside a branch: its place is x -/
def bI (M : mM) (a g N K R W C : Nat) (E : Eg9) (tg : Int) (b Z0 T2 Z2 : Nat) (M2 : mM) : Prop := cI M a g N K R W C E tg T2 Z2 M2 ∧ mI M2 (g + 28) (8 * C + b) = (Z0 : Int) ∧ Z0 ≤ Z2 ∧ mI M2 (g + 25) C = (b : Int) ∧ (mI M2 a 16 = 0 → Cc M2 g R W T2 E.1 Z2 C ∧ Rt M2 g R W T2 E.1 (mI M2 (g + 26) (8 * C + b)) 0)
/-- a branch has been read -/
def brQ (M : mM) (a g N K R W C : Nat) (E : Eg9) (tg : Int) (s : Nat) (x : Int) (M3 : mM) : Prop := (0 ≤ x ∧ x ≤ N) ∧ ∃ T3 Z3 : Nat, cI M a g N K R W C E tg T3 Z3 M3 ∧ (mI M3 a 16 = 0 → x = (s : Int) ∧ T3 ≤ s ∧ Z3 ≤ s ∧ Cc M3 g R W T3 E.1 Z3 C)
/-- the branch's end -/
theorem br_end {b Z0 s : Nat} {x : Int} {M4 : mM} (hC : C < 60) (hb : b < 8) (h : bI M a g N K R W C E tg b Z0 T2 Z2 M2) (hx : 0 ≤ x ∧ x ≤ N) (hs : mI M2 a 16 = 0 → x = (s : Int) ∧ T2 ≤ s ∧ Z2 ≤ s) (hZ : Z2 ≤ 16385) (e3 : M3 = mUI M2 (g + 29) (8 * C + b) ((Z2 : Int) - Z0)) (e4 : M4 = mUI M3 (g + 25) C ((b : Int) + 1)) : mOk M4 ∧ brQ M a g N K R W C E tg s x M4 := by
  obtain ⟨c2, q28, hZ0, q25, hc⟩ := h
  obtain ⟨c3, f3, a3, G3⟩ := c2.st (i := 29) (i32s (by omega) (by omega)) (by omega) (by omega) (by decide) (by decide) e3
  obtain ⟨c4, f4, a4, G4⟩ := c3.st (i := 25) (i32s (by omega) (by omega)) (by omega) (by omega) (by decide) (by decide) e4
  refine ⟨c4.1.1, hx, T2, Z2, c4, fun z => ?_⟩
  have z2 : mI M2 a 16 = 0 := by rw [← a3, ← a4]; exact z
  obtain ⟨s1, s2, s3⟩ := hs z2
  obtain ⟨k1, k2⟩ := hc z2
  have G24 := G3.trans G4
  have hR := (c2.2.2.2.2 z2).1.1
  obtain ⟨n1, n2, n3, n4⟩ := k1
  refine ⟨s1, s2, s3, ?_⟩
  have r24 : mI M4 (g + 24) C = mI M2 (g + 24) C := by rw [f4, if_neg (fun z => by omega), f3, if_neg (fun z => by omega)]
  have r25 : mI M4 (g + 25) C = (b : Int) + 1 := by rw [f4, if_pos ⟨rfl, rfl⟩]
  unfold Cc
  rw [r24, r25]
  refine ⟨n1.gn G24 hR, by omega, by omega, fun b' hb' => ?_⟩
  have r26 : mI M4 (g + 26) (8 * C + b') = mI M2 (g + 26) (8 * C + b') := by rw [f4, if_neg (fun z => by omega), f3, if_neg (fun z => by omega)]
  have r28 : mI M4 (g + 28) (8 * C + b') = mI M2 (g + 28) (8 * C + b') := by rw [f4, if_neg (fun z => by omega), f3, if_neg (fun z => by omega)]
  by_cases y : b' = b
  · subst y
    have r29 : mI M4 (g + 29) (8 * C + b') = (Z2 : Int) - Z0 := by rw [f4, if_neg (fun z => by omega), f3, if_pos ⟨rfl, rfl⟩]
    unfold Bc
    rw [r26, r28, r29, q28]
    exact ⟨k2.gn G24 hR, by omega, by omega, by omega⟩
  · have r29 : mI M4 (g + 29) (8 * C + b') = mI M2 (g + 29) (8 * C + b') := by rw [f4, if_neg (fun z => by omega), f3, if_neg (fun z => by omega)]
    exact (n4 b' (by omega)).gn G24 hR ⟨r26, r28, r29⟩
end BR
end
section
/-! The reference: branch. -/
section BR2
variable {G : mG} {d a g R W C T2 Z2 N K : Nat} {M M2 M3 : mM} {E : Eg9} {tg : Int}
theorem cc_part {b : Nat} {M4 : mM} {T3 : Nat} (h : Cc M2 g R W T2 E.1 Z2 C) (hR : R ≤ 60) (hT : T2 ≤ T3) (hb : mI M2 (g + 25) C = (b : Int)) (G4 : Gn M2 g R W T2 M4) (c24 : mI M4 (g + 24) C = mI M2 (g + 24) C) (c25 : mI M4 (g + 25) C = mI M2 (g + 25) C) (cb : ∀ b' : Nat, b' < b → mI M4 (g + 26) (8 * C + b') = mI M2 (g + 26) (8 * C + b') ∧ mI M4 (g + 28) (8 * C + b') = mI M2 (g + 28) (8 * C + b') ∧ mI M4 (g + 29) (8 * C + b') = mI M2 (g + 29) (8 * C + b')) : Cc M4 g R W T3 E.1 Z2 C := by
  obtain ⟨h1, h2, h3, h4⟩ := h
  have hE : ∀ r, r < R → E.1 r = E.1 r := fun _ _ => rfl
  refine Cc.up (T := T2) (Z := Z2) ?_ (Nat.le_refl _) (Nat.le_refl _) hT (Nat.le_refl _) hE
  unfold Cc
  rw [c24, c25]
  exact ⟨h1.gn G4 hR, h2, h3, fun b' hb' => (h4 b' hb').gn G4 hR (cb b' (by omega))⟩
/-- after a set, still inside the branch -/
theorem bI.si {b Z0 c Tm T3 Z3 : Nat} (h : bI M a g N K R W C E tg b Z0 T2 Z2 M2) (z2 : mI M2 a 16 = 0) (m : Mv (itP a g) (fun y => y = a) M2 a M3) (c3 : cI M a g N K R W C E tg T3 Z3 M3) (hT : T2 ≤ T3) (hZ : Z2 ≤ Z3) (k : mI M3 a 16 = 0 → Ge M2 g R W (C + 1) Z2 T2 M3) (hb : b < 8) : bI M a g N K R W C E tg b Z0 T3 Z3 M3 := by
  obtain ⟨c2, q28, hZ0, q25, hc⟩ := h
  have hg := c2.1.2.2.2.2.2.1
  have w2 := c2.1.2.1.1.1
  have hin : ∀ q, itP a g q → q ∈ nums a := fun q hq => hq.1
  have s28 := (m.cellL w2 hin (goffx (i := 28) hg (by decide) (by decide)) (by omega)).1
  have s25 := (m.cellL w2 hin (goffx (i := 25) hg (by decide) (by decide)) (by omega)).1
  refine ⟨c3, by rw [s28]; exact q28, by omega, by rw [s25]; exact q25, fun z => ?_⟩
  have G3 := k z
  obtain ⟨k1, k2⟩ := hc z2
  have hR := (c2.2.2.2.2 z2).1.1
  have hE : ∀ r, r < R → E.1 r = E.1 r := fun _ _ => rfl
  have r0 := Nat.le_refl R
  have w0 := Nat.le_refl W
  refine ⟨(k1.gn G3.1 hR (G3.2.2.2.1 C (by omega))).up r0 w0 hT hZ hE, ?_⟩
  rw [((G3.2.2.2.1 C (by omega)).2.2 b hb).1]
  exact (k2.gn G3.1 hR).up r0 w0 hT hE
end BR2
end
section
/-! The reference: branch, to its end. -/
section BR3
variable {G : mG} {d a g R W C T2 T3 Z2 N K : Nat} {M M2 M3 : mM} {E : Eg9} {tg : Int}
theorem cI.rl {co t : Int} (h : cI M a g N K R W C E tg T2 Z2 M2) (z2 : mI M2 a 16 = 0) (t1 : T2 ≤ T3) (Rl : rlR co M2 a g N T2 K T3 t M3) (hp : mI M3 a 16 = 0 → ∀ n, n < T2 → pm M3 g n = pm M2 g n) : cI M a g N K R W C E tg T3 Z2 M3 ∧ (mI M3 a 16 = 0 → Ge M2 g R W (C + 1) Z2 T2 M3) := by
  obtain ⟨L2, I2, ⟨g2, g6, g12⟩, ⟨z30, z32, z34⟩, D2⟩ := h
  obtain ⟨I3, G3, y30, y32, y34⟩ := rlR.ge (R := R) (W := W) (C := C + 1) (Z := Z2) L2 Rl
  have g3 : mI M3 g = mI M2 g := Rl.2.2.2.1
  exact ⟨⟨Rl.2.1, I2.trans I3, ⟨g3.trans g2, by rw [g3]; exact g6, by rw [g3]; exact g12⟩, ⟨y30.trans z30, y32.trans z32, y34.trans z34⟩, fun z => ((D2 z2).ge ((G3 z (hp z)).down (Nat.le_refl _) (Nat.le_refl _) (Nat.le_succ _) (Nat.le_refl _) (Nat.le_refl _))).tu t1⟩, fun z => G3 z (hp z)⟩
/-- a branch's chance, place and first set are put down -/
theorem br_put {b : Nat} {pl : Int} {M4 M5 M6 : mM} (h : cI M a g N K R W C E tg T2 Z2 M2) (z2 : mI M2 a 16 = 0) (hcc : Cc M2 g R W T2 E.1 Z2 C) (hb : mI M2 (g + 25) C = (b : Int)) (hb8 : b < 8) (hZ : Z2 ≤ 16385) (hT2 : T2 ≤ 16385) (t1 : T2 ≤ T3) (ip : i32 pl) (Rl : rlR 0 M2 a g N T2 K T3 0 M3) (hp : mI M3 a 16 = 0 → ∀ n, n < T2 → pm M3 g n = pm M2 g n) (e4 : M4 = mUI M3 (g + 26) (8 * C + b) (T2 : Int)) (e5 : M5 = mUI M4 (g + 27) (8 * C + b) pl) (e6 : M6 = mUI M5 (g + 28) (8 * C + b) (Z2 : Int)) : bI M a g N K R W C E tg b Z2 T3 Z2 M6 ∧ (cI M a g N K R W C E tg T3 Z2 M4 ∧ cI M a g N K R W C E tg T3 Z2 M5) ∧ mI M6 a = mI M3 a := by
  obtain ⟨c3, G3⟩ := h.rl z2 t1 Rl hp
  obtain ⟨c4, f4, a4, G4⟩ := c3.st (i := 26) (i32s (by omega) (by omega)) (by omega) (by omega) (by decide) (by decide) e4
  obtain ⟨c5, f5, a5, G5⟩ := c4.st (i := 27) ip (by omega) (by omega) (by decide) (by decide) e5
  obtain ⟨c6, f6, a6, G6⟩ := c5.st (i := 28) (i32s (by omega) (by omega)) (by omega) (by omega) (by decide) (by decide) e6
  have aI : mI M6 a = mI M3 a := by rw [a6, a5, a4]
  have hg := h.1.2.2.2.2.2.1
  have w2 := h.1.2.1.1.1
  have hin : ∀ q, rlP a g q → q ∈ nums a := fun q hq => rlP_in hg hq
  have cell : ∀ i, i ≤ 29 → frO (13 + i) → frO (49 + i) → mI M3 (g + i) = mI M2 (g + i) := fun i i1 f1 f2 => (Rl.1.cellL w2 hin (goffx hg f1 f2) (by omega)).1
  have n25 : ∀ k, mI M6 (g + 25) k = mI M2 (g + 25) k := fun k => by rw [f6, if_neg (fun z => by omega), f5, if_neg (fun z => by omega), f4, if_neg (fun z => by omega), cell 25 (by omega) (by decide) (by decide)]
  have n24 : ∀ k, mI M6 (g + 24) k = mI M2 (g + 24) k := fun k => by rw [f6, if_neg (fun z => by omega), f5, if_neg (fun z => by omega), f4, if_neg (fun z => by omega), cell 24 (by omega) (by decide) (by decide)]
  have n29 : ∀ k, mI M6 (g + 29) k = mI M2 (g + 29) k := fun k => by rw [f6, if_neg (fun z => by omega), f5, if_neg (fun z => by omega), f4, if_neg (fun z => by omega), cell 29 (by omega) (by decide) (by decide)]
  have n26 : ∀ k, k ≠ 8 * C + b → mI M6 (g + 26) k = mI M2 (g + 26) k := fun k hk => by rw [f6, if_neg (fun z => by omega), f5, if_neg (fun z => by omega), f4, if_neg (fun z => hk z.2), cell 26 (by omega) (by decide) (by decide)]
  have n28 : ∀ k, k ≠ 8 * C + b → mI M6 (g + 28) k = mI M2 (g + 28) k := fun k hk => by rw [f6, if_neg (fun z => hk z.2), f5, if_neg (fun z => by omega), f4, if_neg (fun z => by omega), cell 28 (by omega) (by decide) (by decide)]
  have v26 : mI M6 (g + 26) (8 * C + b) = (T2 : Int) := by rw [f6, if_neg (fun z => by omega), f5, if_neg (fun z => by omega), f4, if_pos ⟨rfl, rfl⟩]
  have v28 : mI M6 (g + 28) (8 * C + b) = (Z2 : Int) := by rw [f6, if_pos ⟨rfl, rfl⟩]
  clear f4 f5 f6 cell
  refine ⟨⟨c6, v28, Nat.le_refl _, by rw [n25]; exact hb, fun z => ?_⟩, ⟨c4, c5⟩, aI⟩
  rw [aI] at z
  have G3 := G3 z
  have G36 := (G4.trans G5).trans G6
  have D2 := h.2.2.2.2 z2
  have hR := D2.1.1
  have G26 : Gn M2 g R W T2 M6 := G3.1.trans ⟨fun n hn => G36.1 n (by omega), G36.2⟩
  refine ⟨cc_part hcc hR t1 hb G26 (n24 C) (n25 C) (fun b' hb' => ⟨n26 _ (by omega), n28 _ (by omega), n29 _⟩), ?_⟩
  rw [v26]
  exact (rl_rt h.1 h.2.2.1.2.1 h.2.2.1.2.2 D2 Rl z (hp z)).gn G36 hR
end BR3
end
section
/-! The reference: commandItem. -/
section CO
variable {G : mG} {d a g R W C T Z T2 Z2 N K : Nat} {M M2 M3 : mM} {E : Eg9} {tg : Int}
theorem Df.ci (h : Df M a g N T K R W C Z E tg) : cI M a g N K R W C E tg T Z M :=
  ⟨h.1, iF.refl h.1.1 h.1.2.1.1.1, ⟨rfl, h.2.1.1, h.2.1.2.1⟩, h.2.2.1, fun _ => h.2.2.2.2⟩
end CO
end
section
/-! The reference: the items of a text are read. -/
section ITE
variable {G : mG} {d a g R W C T Z T2 T3 N K : Nat} {M M2 M3 : mM} {E : Eg9} {tg : Int}
theorem Df.tgt {M4 : mM} (h : Df M2 a g N T2 K R W C Z E tg) (t1 : T2 < T3) {ij : Nat × Nat} (Rl : rlR 0 M2 a g N T2 K T3 1 M3) (hp : mI M3 a 16 = 0 → ∀ n, n < T2 → pm M3 g n = pm M2 g n) (hw : mI M3 a 16 = 0 → Rtw E.2 M3 g R W T3 E.1 (T2 : Int) 1 ij.1 ij.2) (hT3 : T3 ≤ 30000) (e : M4 = mUI M3 g 17 (T2 : Int)) : iF M2 a g M4 ∧ mI M4 a = mI M3 a ∧ mOk M4 ∧ (mI M3 a 16 = 0 → Df M4 a g N T3 K R W C Z (E.1, gWs E.2 E.2.2.2.2.2.2.1 (E.2.2.2.2.2.2.2.1, some ij, E.2.2.2.2.2.2.2.2.2)) (T2 : Int)) := by
  obtain ⟨hL, ⟨g6, g12, g18, g17⟩, ⟨y30, y32, y34⟩, hK, hD⟩ := h
  obtain ⟨I3, G3, z30, z32, z34⟩ := rlR.ge (R := R) (W := W) (C := C) (Z := Z) hL Rl
  have L3 := Rl.2.1
  have g3 : mI M3 g = mI M2 g := Rl.2.2.2.1
  have hg := L3.2.2.2.2.2.1
  have hB := L3.2.2.2.2.2.2.1
  have w3 := L3.2.1.1.1
  have a0 := goff0 hg
  obtain ⟨m1, f1, l1⟩ := mv_cell (v := (T2 : Int)) (i32s (by omega) (by omega)) L3.1 w3 (show a ≤ g by omega) ⟨a0.1, a0.2.1, a0.2.2.1⟩ e
  have no : ∀ q : Nat, False → q ∈ nums a := fun _ z => z.elim
  have aI1 := (m1.fld w3 no (by omega)).1
  have n17 : ∀ i, i ≠ 17 → mI M4 g i = mI M3 g i := fun i hi => by rw [f1, if_neg (fun z => hi z.2)]
  have x17 : mI M4 g 17 = (T2 : Int) := by rw [f1, if_pos ⟨rfl, rfl⟩]
  have L4 : Lc M4 a g N T3 K := L3.mv m1 no (fun _ z => z.elim) (by rw [n17 6 (by omega)]; omega) (by rw [n17 12 (by omega)]; omega) (by rw [n17 6 (by omega), n17 12 (by omega)]; omega) (fun r _ => by rw [f1, if_neg (fun z => by omega)])
  have s : ∀ {q}, q ∈ nums a → sameN M3 M4 q := fun hq => m1.lst hq (fun z => z)
  refine ⟨I3.trans (iF.mk w3 m1 (fun _ z => z.elim) (fun x z => Or.inr (Or.inl (by omega))) (fun i _ _ _ => by rw [aI1])), aI1, m1.1, fun z => ?_⟩
  have G4 : Ge M3 g R W C Z T3 M4 := ge_mv w3 hg m1 no (fun z => z) (fun z => z) (fun z => z) (fun i i1 i2 (z : g + i = g) => by omega) (fun n _ => ⟨(s (tL_in (q := g + 1) hg (tLk1 g))).2.1 n, (s (tL_in (q := g + 7) hg (tLk7 g))).2.1 n, (s (tL_in (q := g + 9) hg (tLk9 g))).2.1 n, (s (tL_in (q := g + 11) hg (tLk11 g))).2.1 n, (s (tL_in (q := g + 3) hg (tLk3 g))).2.1 n⟩)
  have rt := (rl_rt hL g6 g12 hD Rl z (hp z)).gn G4.1 hD.1.1
  have D4 := ((hD.ge (G3 z (hp z))).tu (Nat.le_of_lt t1)).ge G4
  exact ⟨L4, ⟨by rw [n17 6 (by omega), g3]; exact g6, by rw [n17 12 (by omega), g3]; exact g12, by rw [n17 18 (by omega), g3]; exact g18, x17⟩, ⟨by rw [(s (n30 hg)).1, z30]; exact y30, by rw [(s (n32 hg)).1, z32]; exact y32, by rw [(s (n34 hg)).1, z34]; exact y34⟩, hK, D4.tgu rfl (D4.2.2.2.2.2.2.2.tgu ((hw z).gn G4.1 hD.1.1)) (Or.inr rt)⟩
theorem Lc.ue {k e : Nat} {Q : Int → mM → Prop} (h : Lc M a g N T K) (hi : It (wk M a) k e) (he : e < N) (hQ : Q e M) : Ci G y_MM_until (d + 2) [vr a, vi k, vi 34] M Q := by
  refine (s_until_end (d := d) h.1 h.2.1.1 hi he).mono (fun x M1 e1 => ?_)
  obtain ⟨e1, hx⟩ := e1
  subst e1
  rw [hx]
  exact hQ
end ITE
end
section
/-! The reference: a game is cleared; items. -/
section CL
variable {G : mG} {d a g N : Nat} {M M2 M3 : mM}
/-- the lists of a game -/
abbrev gL9 (g : Nat) : Nat → Prop := fun x => x = g + 1 ∨ x = g + 3 ∨ x = g + 5 ∨ x = g + 7 ∨ x = g + 9 ∨ x = g + 11 ∨ x = g + 30 ∨ x = g + 32 ∨ x = g + 34
theorem gLk1 (g : Nat) : gL9 g (g + 1) := Or.inl rfl
theorem gLk3 (g : Nat) : gL9 g (g + 3) := Or.inr (Or.inl rfl)
theorem gLk5 (g : Nat) : gL9 g (g + 5) := Or.inr (Or.inr (Or.inl rfl))
theorem gLk7 (g : Nat) : gL9 g (g + 7) := Or.inr (Or.inr (Or.inr (Or.inl rfl)))
theorem gLk9 (g : Nat) : gL9 g (g + 9) := Or.inr (Or.inr (Or.inr (Or.inr (Or.inl rfl))))
theorem gLk11 (g : Nat) : gL9 g (g + 11) := Or.inr (Or.inr (Or.inr (Or.inr (Or.inr (Or.inl rfl)))))
theorem gLk30 (g : Nat) : gL9 g (g + 30) := Or.inr (Or.inr (Or.inr (Or.inr (Or.inr (Or.inr (Or.inl rfl))))))
theorem gLk32 (g : Nat) : gL9 g (g + 32) := Or.inr (Or.inr (Or.inr (Or.inr (Or.inr (Or.inr (Or.inr (Or.inl rfl)))))))
theorem gLk34 (g : Nat) : gL9 g (g + 34) := Or.inr (Or.inr (Or.inr (Or.inr (Or.inr (Or.inr (Or.inr (Or.inr (rfl))))))))
theorem gL9_in {q : Nat} (hg : g = a + 13 ∨ g = a + 49) (h : gL9 g q) : q ∈ nums a := by
  have h' : q = g + 1 ∨ q = g + 3 ∨ q = g + 5 ∨ q = g + 7 ∨ q = g + 9 ∨ q = g + 11 ∨ q = g + 30 ∨ q = g + 32 ∨ q = g + 34 := h
  by_cases z : tL g q
  · exact tL_in hg z
  · have h2 : q = g + 30 ∨ q = g + 32 ∨ q = g + 34 := by
      have z' : ¬ (q = g + 1 ∨ q = g + 3 ∨ q = g + 5 ∨ q = g + 7 ∨ q = g + 9 ∨ q = g + 11) := z
      omega
    rcases h2 with y | y | y <;> rw [y]
    · exact n30 hg
    · exact n32 hg
    · exact n34 hg
/-- a list is emptied -/
theorem clr_l {p : Nat} (hg : g = a + 13 ∨ g = a + 49) (h : Mv (gL9 g) (fun x => x = g) M a M2) (hp : gL9 g p) (e : M3 = mUI M2 p 1 0) : Mv (gL9 g) (fun x => x = g) M a M3 ∧ ln M3 p = 0 ∧ (∀ q, q ∈ nums a → q ≠ p → ln M3 q = ln M2 q) ∧ ∀ i, mI M3 g i = mI M2 g i := by
  have w2 := h.2.1
  have pn := gL9_in hg hp
  have b : 0 ≤ ln M2 p := (w2.nu pn).2.2.2.1.1
  obtain ⟨m3, l3, -, -⟩ := mv_set h.1 w2 pn (v := 0) (by omega) b e
  have a0 := goff0 hg
  refine ⟨h.trans (m3.mono (fun q hq => by rw [hq]; exact hp) (fun _ z => z.elim) (fun q hq => w2.lt (gL9_in hg hq))), l3, fun q hq hne => (m3.lst hq hne).1, fun i => ?_⟩
  rw [e, mI_UI, if_neg (fun z => a0.2.1 (by rw [z.1]; exact pn))]
theorem clr_f {i : Nat} {v : Int} (hv : i32 v) (hg : g = a + 13 ∨ g = a + 49) (h : Mv (gL9 g) (fun x => x = g) M a M2) (e : M3 = mUI M2 g i v) : Mv (gL9 g) (fun x => x = g) M a M3 ∧ (∀ q, q ∈ nums a → ln M3 q = ln M2 q) ∧ ∀ j, mI M3 g j = if j = i then v else mI M2 g j := by
  have w2 := h.2.1
  have a0 := goff0 hg
  obtain ⟨m3, f3, -⟩ := mv_cell hv h.1 w2 (show a ≤ g by omega) ⟨a0.1, a0.2.1, a0.2.2.1⟩ e
  refine ⟨h.trans (m3.mono (fun _ z => z.elim) (fun _ z => z) (fun q hq => w2.lt (gL9_in hg hq))), fun q hq => (m3.lst hq (fun z => z)).1, fun j => ?_⟩
  rw [f3]
  by_cases z : j = i
  · rw [if_pos ⟨rfl, z⟩, if_pos z]
  · rw [if_neg (fun y => z y.2), if_neg z]
/-- a game is empty -/
def clQ (M : mM) (a g : Nat) (M' : mM) : Prop := Mv (gL9 g) (fun x => x = g) M a M' ∧ (∀ q, gL9 g q → ln M' q = 0) ∧ mI M' g 6 = 0 ∧ mI M' g 12 = 0 ∧ mI M' g 17 = -1 ∧ mI M' g 18 = 0
theorem s_MG_clear (hO : mOk M) (w : Wd M a) (hg : g = a + 13 ∨ g = a + 49) : Cv G y_MG_clear (d + 1) [vr g] M (fun M' => mOk M' ∧ clQ M a g M') := by
  have gp : ∀ {Mx : mM}, Wd Mx a → mK Mx g = 16 := fun w => (w.gp hg).1
  have kn : ∀ {Mx : mM} {p : Nat}, Wd Mx a → gL9 g p → mK Mx p = 15 := fun w hp => (w.nu (gL9_in hg hp)).1
  have r0 : ∀ {Mx : mM}, Wd Mx a → mR Mx g 0 = g + 1 := fun w => (w.gp hg).2.1.1
  have r1 : ∀ {Mx : mM}, Wd Mx a → mR Mx g 1 = g + 3 := fun w => (w.gp hg).2.1.2.1
  have r2 : ∀ {Mx : mM}, Wd Mx a → mR Mx g 2 = g + 5 := fun w => (w.gp hg).2.1.2.2.1
  have r3 : ∀ {Mx : mM}, Wd Mx a → mR Mx g 3 = g + 7 := fun w => (w.gp hg).2.1.2.2.2.1
  have r4 : ∀ {Mx : mM}, Wd Mx a → mR Mx g 4 = g + 9 := fun w => (w.gp hg).2.1.2.2.2.2.1
  have r5 : ∀ {Mx : mM}, Wd Mx a → mR Mx g 5 = g + 11 := fun w => (w.gp hg).2.1.2.2.2.2.2.1
  have r27 : ∀ {Mx : mM}, Wd Mx a → mR Mx g 27 = g + 30 := fun w => (w.gp hg).2.2.1.2.2.2.2.2.2.2.2.2.2.2.2.1
  have r28 : ∀ {Mx : mM}, Wd Mx a → mR Mx g 28 = g + 32 := fun w => (w.gp hg).2.2.1.2.2.2.2.2.2.2.2.2.2.2.2.2.1
  have r29 : ∀ {Mx : mM}, Wd Mx a → mR Mx g 29 = g + 34 := fun w => (w.gp hg).2.2.1.2.2.2.2.2.2.2.2.2.2.2.2.2.2
  have i1 : g + 1 ∈ nums a := gL9_in hg (gLk1 g)
  have i3 : g + 3 ∈ nums a := gL9_in hg (gLk3 g)
  have i5 : g + 5 ∈ nums a := gL9_in hg (gLk5 g)
  have i7 : g + 7 ∈ nums a := gL9_in hg (gLk7 g)
  have i9 : g + 9 ∈ nums a := gL9_in hg (gLk9 g)
  have i11 : g + 11 ∈ nums a := gL9_in hg (gLk11 g)
  have i30 := n30 hg
  have i32' := n32 hg
  have i34 := n34 hg
  have m0 : Mv (gL9 g) (fun x => x = g) M a M := Mv.refl hO w (fun q hq => w.lt (gL9_in hg hq))
  refine k_MG_clear hO ?_
  rw [r0 w]
  refine ⟨gp w, kn w (gLk1 g), fun M1 e1 => ?_⟩
  obtain ⟨m1, l1, o1, f1⟩ := clr_l hg m0 (gLk1 g) e1
  rw [r1 m1.2.1]
  refine ⟨kn m1.2.1 (gLk3 g), fun M2 e2 => ?_⟩
  obtain ⟨m2, l2, o2, f2⟩ := clr_l hg m1 (gLk3 g) e2
  rw [r2 m2.2.1]
  refine ⟨kn m2.2.1 (gLk5 g), fun M3 e3 => ?_⟩
  obtain ⟨m3, l3, o3, f3⟩ := clr_l hg m2 (gLk5 g) e3
  rw [r3 m3.2.1]
  refine ⟨kn m3.2.1 (gLk7 g), fun M4 e4 => ?_⟩
  obtain ⟨m4, l4, o4, f4⟩ := clr_l hg m3 (gLk7 g) e4
  rw [r4 m4.2.1]
  refine ⟨kn m4.2.1 (gLk9 g), fun M5 e5 => ?_⟩
  obtain ⟨m5, l5, o5, f5⟩ := clr_l hg m4 (gLk9 g) e5
  rw [r5 m5.2.1]
  refine ⟨kn m5.2.1 (gLk11 g), fun M6 e6 M7 e7 M8 e8 M9 e9 M10 e10 => ?_⟩
  obtain ⟨m6, l6, o6, f6⟩ := clr_l hg m5 (gLk11 g) e6
  obtain ⟨m7, o7, f7⟩ := clr_f (v := 0) ⟨by decide, by decide⟩ hg m6 e7
  obtain ⟨m8, o8, f8⟩ := clr_f (v := 0) ⟨by decide, by decide⟩ hg m7 e8
  obtain ⟨m9, o9, f9⟩ := clr_f (v := -1) ⟨by decide, by decide⟩ hg m8 e9
  obtain ⟨m10, o10, f10⟩ := clr_f (v := 0) ⟨by decide, by decide⟩ hg m9 e10
  rw [r27 m10.2.1]
  refine ⟨kn m10.2.1 (gLk30 g), fun M11 e11 => ?_⟩
  obtain ⟨m11, l11, o11, f11⟩ := clr_l hg m10 (gLk30 g) e11
  rw [r28 m11.2.1]
  refine ⟨kn m11.2.1 (gLk32 g), fun M12 e12 => ?_⟩
  obtain ⟨m12, l12, o12, f12⟩ := clr_l hg m11 (gLk32 g) e12
  rw [r29 m12.2.1]
  refine ⟨kn m12.2.1 (gLk34 g), fun M13 e13 => ?_⟩
  obtain ⟨m13, l13, o13, f13⟩ := clr_l hg m12 (gLk34 g) e13
  have last : ∀ q, q ∈ nums a → q ≠ g + 30 → q ≠ g + 32 → q ≠ g + 34 → ln M13 q = ln M6 q := fun q hq h1 h2 h3 => by rw [o13 q hq h3, o12 q hq h2, o11 q hq h1, o10 q hq, o9 q hq, o8 q hq, o7 q hq]
  refine ⟨m13.1, m13, fun q hq => ?_, ?_, ?_, ?_, ?_⟩
  · have h' : q = g + 1 ∨ q = g + 3 ∨ q = g + 5 ∨ q = g + 7 ∨ q = g + 9 ∨ q = g + 11 ∨ q = g + 30 ∨ q = g + 32 ∨ q = g + 34 := hq
    rcases h' with y | y | y | y | y | y | y | y | y <;> rw [y]
    · rw [last _ i1 (by omega) (by omega) (by omega), o6 _ i1 (by omega), o5 _ i1 (by omega), o4 _ i1 (by omega), o3 _ i1 (by omega), o2 _ i1 (by omega), l1]
    · rw [last _ i3 (by omega) (by omega) (by omega), o6 _ i3 (by omega), o5 _ i3 (by omega), o4 _ i3 (by omega), o3 _ i3 (by omega), l2]
    · rw [last _ i5 (by omega) (by omega) (by omega), o6 _ i5 (by omega), o5 _ i5 (by omega), o4 _ i5 (by omega), l3]
    · rw [last _ i7 (by omega) (by omega) (by omega), o6 _ i7 (by omega), o5 _ i7 (by omega), l4]
    · rw [last _ i9 (by omega) (by omega) (by omega), o6 _ i9 (by omega), l5]
    · rw [last _ i11 (by omega) (by omega) (by omega), l6]
    · rw [o13 _ i30 (by omega), o12 _ i30 (by omega), l11]
    · rw [o13 _ i32' (by omega), l12]
    · exact l13
  · rw [f13, f12, f11, f10, if_neg (by omega), f9, if_neg (by omega), f8, if_neg (by omega), f7, if_pos rfl]
  · rw [f13, f12, f11, f10, if_neg (by omega), f9, if_neg (by omega), f8, if_pos rfl]
  · rw [f13, f12, f11, f10, if_neg (by omega), f9, if_pos rfl]
  · rw [f13, f12, f11, f10, if_pos rfl]
end CL
end
section
/-! The reference's trees, exactly: node, job, join, list, numberOf. -/
section NDX
variable {G : mG} {d a N g T : Nat} {M M1 M2 : mM}
/-- same trees, with their places -/
def sameX (M2 M3 : mM) (g : Nat) : Prop := sameT M2 M3 g ∧ ∀ n, pm M3 g n = pm M2 g n
theorem sameX.trans {M1 M2 M3 : mM} (h : sameX M1 M2 g) (k : sameX M2 M3 g) : sameX M1 M3 g := ⟨h.1.trans k.1, fun n => (k.2 n).trans (h.2 n)⟩
def jnX (M2 : mM) (g T : Nat) (p : Int) (x : Nat) (M3 : mM) : Prop := jnQ M2 g T p x M3 ∧ ∀ n, pm M3 g n = pm M2 g n
theorem x_MM_node {s : Int} {wd fr : Nat} (hs : i32 s) (hO : mOk M) (h : Wx M a N) (hw : wd < N) (hf : fr < N) (hg : g = a + 13 ∨ g = a + 49) (hd : mR M a 10 = g) (hn : nd M g T) (hT : T ≤ 32768) : Ci G y_MM_node (d + 2) [vr a, vi s, vi wd, vi fr] M (fun r M' => Mv (tL g) (fun _ => False) M a M' ∧ r = T ∧ nd M' g (T + 1) ∧ (∀ n, n < T → so M' g n = so M g n ∧ va M' g n = va M g n ∧ fp M' g n = fp M g n ∧ np M' g n = np M g n) ∧ so M' g T = s ∧ va M' g T = 0 ∧ fp M' g T = -1 ∧ np M' g T = -1 ∧ pm M' g T = nt M (a + 7) wd ∧ ∀ n, n < T → pm M' g n = pm M g n) := by
  have hwd := h.1.1
  have hN := h.1.2.2
  have hi : ∀ q, tL g q → q ∈ nums a := fun q hq => tL_in hg hq
  have hlt : ∀ (M2 : mM), Wd M2 a → ∀ q, tL g q → q < mZ M2 := fun M2 w q hq => w.lt (hi q hq)
  have sub : ∀ (M2 M3 : mM) (q : Nat) (v : Int), tL g q → Wd M2 a → adQ M2 q v M3 → Mv (tL g) (fun _ => False) M2 a M3 := fun M2 M3 q v hq w t => (mv_add w (hi q hq) t).mono (fun x hx => by rw [hx]; exact hq) (fun x hx => hx) (hlt M2 w)
  have oth : ∀ (M2 M3 : mM) (q r : Nat) (v : Int), tL g q → tL g r → r ≠ q → Wd M2 a → adQ M2 q v M3 → sameN M2 M3 r := fun M2 M3 q r v hq hr hne w t => (mv_add w (hi q hq) t).lst (hi r hr) hne
  have g1 : tL g (g + 1) := tLk1 g
  have g3 : tL g (g + 3) := tLk3 g
  have g5 : tL g (g + 5) := tLk5 g
  have g7 : tL g (g + 7) := tLk7 g
  have g9 : tL g (g + 9) := tLk9 g
  have g11 : tL g (g + 11) := tLk11 g
  have gr : ∀ (M2 : mM), Wd M2 a → mK M2 g = 16 ∧ mR M2 g 0 = g + 1 ∧ mR M2 g 1 = g + 3 ∧ mR M2 g 2 = g + 5 ∧ mR M2 g 3 = g + 7 ∧ mR M2 g 4 = g + 9 ∧ mR M2 g 5 = g + 11 := fun M2 w => by
    have k := w.gp hg
    exact ⟨k.1, k.2.1.1, k.2.1.2.1, k.2.1.2.2.1, k.2.1.2.2.2.1, k.2.1.2.2.2.2.1, k.2.1.2.2.2.2.2.1⟩
  refine k_MM_node hO hs (i32s (by omega) (by omega)) (i32s (by omega) (by omega)) ?_
  rw [hd, (gr M hwd).2.1]
  refine ⟨hwd.1.1, (gr M hwd).1, (hwd.nu (hi _ g1)).1, (s_MN_add hs hO (hwd.nu (hi _ g1)) (by rw [hn _ g1]; omega)).mono (fun M1 t1 => ?_)⟩
  have m1 := sub M M1 _ _ g1 hwd t1
  have w1 := m1.2.1
  have d1 : mR M1 a 10 = g := by rw [m1.rfl_a hwd hi]; exact hd
  have x1 := h.mv m1 hi (tL_no hg hwd).1 (tL_no hg hwd).2.1 (tL_no hg hwd).2.2.1 (tL_no hg hwd).2.2.2.1
  rw [d1, (gr M1 w1).2.2.1]
  refine ⟨m1.1, w1.1.1, (gr M1 w1).1, (s_MM_place0 (d := d) m1.1 x1 hw).mono (fun y M2 h2 => ?_)⟩
  obtain ⟨e2, hy⟩ := h2
  subst e2
  have hy32 : i32 y := by rw [hy]; exact (m1.1 _ _).1
  have s13 := oth M M2 _ (g + 3) _ g1 g3 (by omega) hwd t1
  refine ⟨hy32, m1.1, (w1.nu (hi _ g3)).1, (s_MN_add hy32 m1.1 (w1.nu (hi _ g3)) (by rw [s13.1, hn _ g3]; omega)).mono (fun M3 t3 => ?_)⟩
  have m3 := sub M2 M3 _ _ g3 w1 t3
  have w3 := m3.2.1
  have d3 : mR M3 a 10 = g := by rw [m3.rfl_a w1 hi]; exact d1
  have x3 := x1.mv m3 hi (tL_no hg w1).1 (tL_no hg w1).2.1 (tL_no hg w1).2.2.1 (tL_no hg w1).2.2.2.1
  rw [d3, (gr M3 w3).2.2.2.1]
  refine ⟨m3.1, w3.1.1, (gr M3 w3).1, (s_MM_place0 (d := d) m3.1 x3 hf).mono (fun z M4 h4 => ?_)⟩
  obtain ⟨e4, hz⟩ := h4
  subst e4
  have hz32 : i32 z := by rw [hz]; exact (m3.1 _ _).1
  have s15 := oth M M2 _ (g + 5) _ g1 g5 (by omega) hwd t1
  have s35 := oth M2 M4 _ (g + 5) _ g3 g5 (by omega) w1 t3
  refine ⟨hz32, m3.1, (w3.nu (hi _ g5)).1, (s_MN_add hz32 m3.1 (w3.nu (hi _ g5)) (by rw [s35.1, s15.1, hn _ g5]; omega)).mono (fun M5 t5 => ?_)⟩
  have m5 := sub M4 M5 _ _ g5 w3 t5
  have w5 := m5.2.1
  have d5 : mR M5 a 10 = g := by rw [m5.rfl_a w3 hi]; exact d3
  have s17 := oth M M2 _ (g + 7) _ g1 g7 (by omega) hwd t1
  have s37 := oth M2 M4 _ (g + 7) _ g3 g7 (by omega) w1 t3
  have s57 := oth M4 M5 _ (g + 7) _ g5 g7 (by omega) w3 t5
  have l57 : ln M5 (g + 7) = T := by rw [s57.1, s37.1, s17.1]; exact hn _ g7
  rw [d5, (gr M5 w5).2.2.2.2.1]
  refine ⟨m5.1, w5.1.1, (gr M5 w5).1, (w5.nu (hi _ g7)).1, (s_MN_add (i32s (by omega) (by omega)) m5.1 (w5.nu (hi _ g7)) (by omega)).mono (fun M7 t7 => ?_)⟩
  have m7 := sub M5 M7 _ _ g7 w5 t7
  have w7 := m7.2.1
  have d7 : mR M7 a 10 = g := by rw [m7.rfl_a w5 hi]; exact d5
  have s19 := oth M M2 _ (g + 9) _ g1 g9 (by omega) hwd t1
  have s39 := oth M2 M4 _ (g + 9) _ g3 g9 (by omega) w1 t3
  have s59 := oth M4 M5 _ (g + 9) _ g5 g9 (by omega) w3 t5
  have s79 := oth M5 M7 _ (g + 9) _ g7 g9 (by omega) w5 t7
  have k79 := ((s19.trans s39).trans s59).trans s79
  have l79 : ln M7 (g + 9) = T := by rw [k79.1]; exact hn _ g9
  rw [d7, (gr M7 w7).2.2.2.2.2.1]
  refine ⟨m7.1, w7.1.1, (gr M7 w7).1, (w7.nu (hi _ g9)).1, (s_MN_add (i32s (by omega) (by omega)) m7.1 (w7.nu (hi _ g9)) (by omega)).mono (fun M8 t8 => ?_)⟩
  have m8 := sub M7 M8 _ _ g9 w7 t8
  have w8 := m8.2.1
  have d8 : mR M8 a 10 = g := by rw [m8.rfl_a w7 hi]; exact d7
  have s1b := oth M M2 _ (g + 11) _ g1 g11 (by omega) hwd t1
  have s3b := oth M2 M4 _ (g + 11) _ g3 g11 (by omega) w1 t3
  have s5b := oth M4 M5 _ (g + 11) _ g5 g11 (by omega) w3 t5
  have s7b := oth M5 M7 _ (g + 11) _ g7 g11 (by omega) w5 t7
  have s8b := oth M7 M8 _ (g + 11) _ g9 g11 (by omega) w7 t8
  have k8b := (((s1b.trans s3b).trans s5b).trans s7b).trans s8b
  have l8b : ln M8 (g + 11) = T := by rw [k8b.1]; exact hn _ g11
  rw [d8, (gr M8 w8).2.2.2.2.2.2]
  refine ⟨m8.1, w8.1.1, (gr M8 w8).1, (w8.nu (hi _ g11)).1, (s_MN_add (i32s (by omega) (by omega)) m8.1 (w8.nu (hi _ g11)) (by omega)).mono (fun M9 t9 => ?_)⟩
  have m9 := sub M8 M9 _ _ g11 w8 t9
  have w9 := m9.2.1
  have d9 : mR M9 a 10 = g := by rw [m9.rfl_a w8 hi]; exact d8
  rw [d9, (gr M9 w9).2.1]
  -- what each list holds at the end
  have e1 : sameN M2 M9 (g + 1) := ((((oth M2 M4 _ (g + 1) _ g3 g1 (by omega) w1 t3).trans (oth M4 M5 _ (g + 1) _ g5 g1 (by omega) w3 t5)).trans (oth M5 M7 _ (g + 1) _ g7 g1 (by omega) w5 t7)).trans (oth M7 M8 _ (g + 1) _ g9 g1 (by omega) w7 t8)).trans (oth M8 M9 _ (g + 1) _ g11 g1 (by omega) w8 t9)
  have e3 : sameN M4 M9 (g + 3) := (((oth M4 M5 _ (g + 3) _ g5 g3 (by omega) w3 t5).trans (oth M5 M7 _ (g + 3) _ g7 g3 (by omega) w5 t7)).trans (oth M7 M8 _ (g + 3) _ g9 g3 (by omega) w7 t8)).trans (oth M8 M9 _ (g + 3) _ g11 g3 (by omega) w8 t9)
  have e5 : sameN M5 M9 (g + 5) := ((oth M5 M7 _ (g + 5) _ g7 g5 (by omega) w5 t7).trans (oth M7 M8 _ (g + 5) _ g9 g5 (by omega) w7 t8)).trans (oth M8 M9 _ (g + 5) _ g11 g5 (by omega) w8 t9)
  have e7 : sameN M7 M9 (g + 7) := (oth M7 M8 _ (g + 7) _ g9 g7 (by omega) w7 t8).trans (oth M8 M9 _ (g + 7) _ g11 g7 (by omega) w8 t9)
  have e9 : sameN M8 M9 (g + 9) := oth M8 M9 _ (g + 9) _ g11 g9 (by omega) w8 t9
  obtain ⟨-, -, -, a1, b1, c1, -⟩ := t1
  obtain ⟨-, -, -, a3, b3, c3, -⟩ := t3
  obtain ⟨-, -, -, a5, b5, c5, -⟩ := t5
  obtain ⟨-, -, -, a7, b7, c7, -⟩ := t7
  obtain ⟨-, -, -, a9, b9, c9, -⟩ := t8
  obtain ⟨-, -, -, ab, bb, cb, -⟩ := t9
  have hl1 : ln M9 (g + 1) = T + 1 := by rw [e1.1, a1, hn _ g1]
  have k7 := (s17.trans s37).trans s57
  have tt : ∀ q, ln M q = T → (ln M q).toNat = T := fun q z => by omega
  have t57 : (ln M5 (g + 7)).toNat = T := by omega
  have t79' : (ln M7 (g + 9)).toNat = T := by omega
  have t8b' : (ln M8 (g + 11)).toNat = T := by omega
  rw [tt _ (hn _ g1)] at c1
  rw [t57] at c7
  rw [t79'] at c9
  rw [t8b'] at cb
  have c3' : nt M4 (g + 3) T = y := by
    have u := c3
    rw [s13.1, hn _ g3, Int.toNat_natCast] at u
    exact u
  have y7 : nt M2 (a + 7) wd = nt M (a + 7) wd := (m1.lst n7 (tL_no hg hwd).2.1).2.1 wd
  refine ⟨m9.1, w9.1.1, (gr M9 w9).1, (w9.nu (hi _ g1)).1, ((((m1.trans m3).trans m5).trans m7).trans m8).trans m9, ?_, fun q hq => ?_, fun n hnT => ⟨?_, ?_, ?_, ?_⟩, ?_, ?_, ?_, cb, ?_, fun n hnT => ?_⟩
  · have : mI M9 (g + 1) 1 = ln M9 (g + 1) := rfl
    omega
  · rcases hq with w | w | w | w | w | w <;> subst w
    · exact hl1
    · rw [e3.1, a3, s13.1, hn _ g3]; rfl
    · rw [e5.1, a5, s35.1, s15.1, hn _ g5]; rfl
    · rw [e7.1, a7, l57]; rfl
    · rw [e9.1, a9, l79]; rfl
    · rw [ab, l8b]; rfl
  · show nt M9 (g + 1) n = _
    rw [e1.2.1, b1 n (by rw [hn _ g1]; omega)]
  · show nt M9 (g + 7) n = _
    rw [e7.2.1, b7 n (by omega), k7.2.1]
  · show nt M9 (g + 9) n = _
    rw [e9.2.1, b9 n (by omega), k79.2.1]
  · show nt M9 (g + 11) n = _
    rw [bb n (by omega), k8b.2.1]
  · show nt M9 (g + 1) T = _
    rw [e1.2.1, c1]
  · show nt M9 (g + 7) T = _
    rw [e7.2.1, c7]
  · show nt M9 (g + 9) T = _
    rw [e9.2.1, c9]
  · show nt M9 (g + 3) T = _
    rw [e3.2.1, c3', hy, y7]
  · show nt M9 (g + 3) n = nt M (g + 3) n
    rw [e3.2.1, b3 n (by rw [s13.1, hn _ g3]; omega), s13.2.1]
theorem x_MM_job {st : List Int} {p i j : Int} (h : TI M a g N T st M2) (hl : st.length ≤ 65000) (hp : i32 p) (hi : i32 i) (hj : i32 j) : Cv G y_MM_job (d + 1) [vr a, vi p, vi i, vi j] M2 (fun M3 => TI M a g N T (j :: i :: p :: st) M3 ∧ sameX M2 M3 g) := by
  have hg := h.2.2.2.2.2
  have push : ∀ (st : List Int) (v : Int) (M4 : mM), TI M a g N T st M4 → st.length ≤ 65010 → i32 v → Cv G y_MN_add d [vr (a + 91), vi v] M4 (fun M5 => TI M a g N T (v :: st) M5 ∧ (∀ q, tL g q → sameN M4 M5 q)) := fun st v M4 h4 hl hv => by
    have w := h4.2.1.1.1
    refine (s_MN_addB (B := 65536) hv h4.1.1 (w.nu n91) (by rw [h4.2.2.2.2.1.1]; omega) (by decide)).mono (fun M5 t => ?_)
    have m5 := mv_addB w n91 (Or.inl rfl) t
    obtain ⟨k1, k2, k3⟩ := h4.wx m5 (fun q hq => Or.inr hq)
    have sm : ∀ q, tL g q → sameN M4 M5 q := fun q hq => m5.lst (tL_in hg hq) (fun z => by rw [z] at hq; exact (tL_no hg w).2.2.2.2 hq)
    exact ⟨⟨k1, k2, k3, fun q hq => by rw [(sm q hq).1]; exact h4.2.2.2.1 q hq, h4.2.2.2.2.1.add t, hg⟩, sm⟩
  have r18 : ∀ (st : List Int) (M4 : mM), TI M a g N T st M4 → mR M4 a 18 = a + 91 ∧ mK M4 a = 14 ∧ mK M4 (a + 91) = 15 ∧ mOk M4 := fun st M4 h4 => by
    have w := h4.2.1.1.1
    exact ⟨w.1.2.2.2.2.1.2.2.2.1, w.1.1, (w.nu n91).1, h4.1.1⟩
  have q0 := r18 _ _ h
  refine k_MM_job q0.2.2.2 hp hi hj ?_
  rw [q0.1]
  refine ⟨q0.2.1, q0.2.2.1, (push st p M2 h (by omega) hp).mono (fun M3 h3 => ?_)⟩
  obtain ⟨h3, s3⟩ := h3
  have q3 := r18 _ _ h3
  rw [q3.1]
  refine ⟨q3.2.2.2, q3.2.1, q3.2.2.1, (push _ i M3 h3 (by rw [List.length_cons]; omega) hi).mono (fun M4 h4 => ?_)⟩
  obtain ⟨h4, s4⟩ := h4
  have q4 := r18 _ _ h4
  rw [q4.1]
  refine ⟨q4.2.2.2, q4.2.1, q4.2.2.1, (push _ j M4 h4 (by simp only [List.length_cons]; omega) hj).mono (fun M5 h5 => ?_)⟩
  obtain ⟨h5, s5⟩ := h5
  have k : ∀ n q, tL g q → nt M5 q n = nt M2 q n := fun n q hq => by rw [(s5 q hq).2.1, (s4 q hq).2.1, (s3 q hq).2.1]
  exact ⟨h5.1.1, h5, fun n => ⟨k n _ (by omega), k n _ (by omega), k n _ (by omega), k n _ (by omega)⟩, fun n => k n _ (by omega)⟩
theorem x_MM_join {st : List Int} {p : Int} {x : Nat} (h : TI M a g N T st M2) (hp : p < T) (hp2 : i32 p) (hx : x ≤ 100000) (hT : T ≤ 100000) (hc : 0 ≤ p → fp M2 g p.toNat = -1 ∨ ∃ f c l : Nat, fp M2 g p.toNat = c ∧ Lk M2 g T f c l) : Cv G y_MM_join (d + 1) [vr a, vi p, vi x] M2 (fun M3 => TI M a g N T st M3 ∧ jnX M2 g T p x M3) := by
  have h0 := h
  obtain ⟨m2, wx, hd, hn, hs, hg⟩ := h
  have w := wx.1.1
  have hO := m2.1
  have gp := w.gp hg
  have g9 : tL g (g + 9) := tLk9 g
  have g11 : tL g (g + 11) := tLk11 g
  have i9 := tL_in (a := a) hg g9
  have i11 := tL_in (a := a) hg g11
  have u9 := w.nu i9
  have u11 := w.nu i11
  have l9 := hn _ g9
  have l11 := hn _ g11
  have c9 : (T : Int) ≤ cp M2 (g + 9) := by rw [← l9]; exact u9.2.2.2.1.2
  have c11 : (T : Int) ≤ cp M2 (g + 11) := by rw [← l11]; exact u11.2.2.2.1.2
  have r4 : mR M2 g 4 = g + 9 := gp.2.1.2.2.2.2.1
  have r5 : mR M2 g 5 = g + 11 := gp.2.1.2.2.2.2.2.1
  -- an entry of a list of the game
  have ent : ∀ (q j : Nat) (M3 : mM), tL g q → M3 = mUI M2 (mR M2 q 0) j x → TI M a g N T st M3 ∧ (∀ k, nt M3 q k = if k = j then (x : Int) else nt M2 q k) ∧ ∀ r, tL g r → r ≠ q → ∀ k, nt M3 r k = nt M2 r k := fun q j M3 hq e3 => by
    obtain ⟨m3, k1, k2, k3⟩ := mv_el (v := (x : Int)) (i32s (by omega) (by omega)) hO w (tL_in hg hq) e3
    obtain ⟨t1, t2, t3⟩ := h0.wx m3 (fun r hr => Or.inl (by rw [hr]; exact hq))
    have sm : ∀ r, r ∈ nums a → r ≠ q → sameN M2 M3 r := fun r hr hne => m3.lst hr hne
    refine ⟨⟨t1, t2, t3, fun r hr => ?_, hs.same (sm _ n91 (fun z => by rw [← z] at hq; exact (tL_no hg w).2.2.2.2 hq)), hg⟩, k2, fun r hr hne k => (sm r (tL_in hg hr) hne).2.1 k⟩
    by_cases z : r = q
    · rw [z, k1]; exact hn q hq
    · rw [(sm r (tL_in hg hr) z).1]; exact hn r hr
  refine k_MM_join hO hp2 (i32s (by omega) (by omega)) ⟨fun p0 => ?_, fun p0 => ⟨h0, ⟨fun n => ⟨rfl, rfl⟩, Or.inl ⟨by omega, fun n => ⟨rfl, rfl⟩⟩⟩, fun n => rfl⟩⟩
  rw [hd, r4]
  have ep : p = ((p.toNat : Nat) : Int) := by omega
  have hat : ∀ {Q : Int → mM → Prop}, (∀ y, y = fp M2 g p.toNat → i32 y → Q y M2) → Ci G y_MN_at d [vr (g + 9), vi p] M2 Q := fun hQ => by
    rw [ep]
    refine (s_MN_at hO u9 (by omega)).mono (fun y M3 h3 => ?_)
    obtain ⟨e3, hy⟩ := h3
    subst e3
    exact hQ y hy (by rw [hy]; exact (hO _ _).1)
  refine ⟨w.1.1, gp.1, u9.1, hat (fun y hy hy32 => ⟨hy32, hO, fun y0 => ?_, fun y0 => ?_⟩)⟩
  · rw [hd, r4]
    refine ⟨w.1.1, gp.1, u9.1, hat (fun z hz hz32 => ⟨hz32, hO, ?_⟩)⟩
    rcases hc p0 with q | ⟨f, c, l, q1, q2⟩
    · omega
    · have hzc : z = ((c : Nat) : Int) := hz.trans q1
      rw [hzc]
      suffices H : ∀ (f c' : Nat), Lk M2 g T f c' l → h_MM_join_45 G d a x c' M2 (fun M3 => TI M a g N T st M3 ∧ jnX M2 g T p x M3) from H f c q2
      intro f'
      induction f' with
      | zero => intro c' hk; exact hk.elim
      | succ f' ih =>
        intro c' hk
        obtain ⟨hk1, hk2⟩ := hk
        have hat2 : ∀ {Q : Int → mM → Prop}, (∀ y, y = np M2 g c' → i32 y → Q y M2) → Ci G y_MN_at d [vr (g + 11), vi c'] M2 Q := fun hQ => by
          refine (s_MN_at hO u11 (by omega)).mono (fun y M3 h3 => ?_)
          obtain ⟨e3, hy⟩ := h3
          subst e3
          exact hQ y hy (by rw [hy]; exact (hO _ _).1)
        refine k_MM_join_45 hO (i32s (by omega) (by omega)) (i32s (by omega) (by omega)) ?_
        rw [hd, r5]
        refine ⟨w.1.1, gp.1, u11.1, hat2 (fun u hu hu32 => ⟨hu32, hO, fun u0 => ?_, fun u0 => ?_⟩)⟩
        · rw [hd, r5]
          refine ⟨w.1.1, gp.1, u11.1, u11.2.1, ⟨by omega, by have : mN M2 (mR M2 (g + 11) 0) = cp M2 (g + 11) := rfl; omega⟩, fun M3 e3 => ?_⟩
          rw [Int.toNat_natCast] at e3
          obtain ⟨k1, k2, k3⟩ := ent (g + 11) c' M3 g11 e3
          have hl : c' = l := by
            rcases hk2 with ⟨z, -⟩ | ⟨y', z, -⟩
            · exact z
            · omega
          refine ⟨k1, ⟨fun n => ⟨k3 _ (by omega) (by omega) n, k3 _ (by omega) (by omega) n⟩, Or.inr (Or.inr ⟨p0, f, c, l, q1, q2, fun n => k3 _ g9 (by omega) n, fun n => ?_⟩)⟩, fun n => k3 _ (by omega) (by omega) n⟩
          rw [← hl]
          exact k2 n
        · rw [hd, r5]
          refine ⟨w.1.1, gp.1, u11.1, hat2 (fun v hv hv32 => ⟨hv32, hO, ?_⟩)⟩
          rcases hk2 with ⟨-, z⟩ | ⟨y', z1, z2⟩
          · omega
          · rw [hv, z1]
            exact ih y' z2
  · rw [hd, r4]
    have hf1 : fp M2 g p.toNat = -1 := by
      rcases hc p0 with q | ⟨f, c, l, q1, q2⟩
      · exact q
      · omega
    refine ⟨w.1.1, gp.1, u9.1, u9.2.1, ⟨by omega, by have : mN M2 (mR M2 (g + 9) 0) = cp M2 (g + 9) := rfl; omega⟩, fun M3 e3 => ?_⟩
    obtain ⟨k1, k2, k3⟩ := ent (g + 9) p.toNat M3 g9 e3
    exact ⟨k1, ⟨fun n => ⟨k3 _ (by omega) (by omega) n, k3 _ (by omega) (by omega) n⟩, Or.inr (Or.inl ⟨p0, hf1, k2, fun n => k3 _ g11 (by omega) n⟩)⟩, fun n => k3 _ (by omega) (by omega) n⟩
theorem x_MM_list {st : List Int} {M2 : mM} {p : Int} {i j : Nat} (hw : Wd M a) (h : TI M a g N T st M2) (hp : i32 p) (hi : 1 ≤ i) (hj : j < N) (hl : st.length + 3 * (j - i) ≤ 60000) (he : Eo (wk M a) 7 i j) : Cv G y_MM_list (d + 2) [vr a, vi p, vi i, vi j] M2 (fun M3 => ∃ rs f, TI M a g N T (flat p rs ++ st) M3 ∧ sameX M2 M3 g ∧ JM (wk M a) f i j rs ∧ rsum rs ≤ j - i) := by
  have hN := h.2.1.1.2.2
  have hO := h.1.1
  have hpr := he.pr
  have hij := hpr.1
  refine k_MM_list hO hp (i32s (by omega) (by omega)) (i32s (by omega) (by omega)) ?_
  -- one part after the other, from the last
  suffices H : ∀ (L e : Nat) (M3 : mM) (s2 : List (Nat × Nat)), e ≤ L → e ≤ j → Eo (wk M a) 7 i e → TI M a g N T (flat p s2 ++ st) M3 → sameX M2 M3 g → (∀ s f, JM (wk M a) f i e s → ∃ f', JM (wk M a) f' i j (s ++ s2)) → (rsum s2 ≤ j - e ∧ s2.length ≤ j - e) → h_MM_list_11 G (d + 1) a p i e 0 ((e : Int) - 1) M3 (fun M3 => ∃ rs f, TI M a g N T (flat p rs ++ st) M3 ∧ sameX M2 M3 g ∧ JM (wk M a) f i j rs ∧ rsum rs ≤ j - i) from
    H j j M2 [] (Nat.le_refl _) (Nat.le_refl _) he h ⟨fun n => ⟨rfl, rfl, rfl, rfl⟩, fun n => rfl⟩ (fun s f q => ⟨f, by rw [List.append_nil]; exact q⟩) (by simp [rsum])
  intro L
  induction L with
  | zero => intro e M3 s2 h1 _ h3; have := h3.pr.1; omega
  | succ L ih =>
    intro e M3 s2 heL hej h7 t3 sT hJ hlen
    have p7 := h7.pr
    -- the last part begins at b
    obtain ⟨b, hb1, hb2, hb3⟩ : ∃ b, i ≤ b ∧ Eo (wk M a) 6 b e ∧ (b = i ∨ (1 ≤ b ∧ i < b - 1 ∧ wk M a (b - 1) = 35 ∧ Eo (wk M a) 7 i (b - 1))) := by
      rcases h7.lst with q | ⟨m, q1, q2, q3⟩
      · exact ⟨i, by omega, q, Or.inl rfl⟩
      · have := q2.pr.1
        exact ⟨m + 1, by omega, q3, Or.inr ⟨by omega, by omega, by rw [show m + 1 - 1 = m by first | rfl | omega]; exact q1, by rw [show m + 1 - 1 = m by first | rfl | omega]; exact q2⟩⟩
    have pb := hb2.pr
    have hbe := pb.1
    have hbl := pb.2.2.2.2.1
    have hnc : Nx (wk M a) 35 b (e - b) := by
      obtain ⟨n, hn⟩ := hb2
      exact ex_nc (by omega) hn
    have hwk3 := t3.wk hw
    have w3 := t3.2.1.1
    have hO3 := t3.1.1
    have hK := w3.1.1.1
    have hlen3 : (flat p s2 ++ st).length ≤ 65000 := by rw [List.length_append, flat_len]; omega
    -- the job for that part
    have hjob : Cv G y_MM_job (d + 1) [vr a, vi p, vi ((b : Int) - 1 + 1), vi e] M3 (fun M4 => mOk M4 ∧ h_MM_list_11 G (d + 1) a p i ((b : Int) - 1) 0 ((b : Int) - 1 + (-1)) M4 (fun M3 => ∃ rs f, TI M a g N T (flat p rs ++ st) M3 ∧ sameX M2 M3 g ∧ JM (wk M a) f i j rs ∧ rsum rs ≤ j - i)) := by
      rw [show (b : Int) - 1 + 1 = (b : Int) by first | rfl | omega]
      refine (x_MM_job (d := d) t3 hlen3 hp (i32s (by omega) (by omega)) (i32s (by omega) (by omega))).mono (fun M4 h4 => ?_)
      obtain ⟨t4, s4⟩ := h4
      refine ⟨t4.1.1, ?_⟩
      have t4' : TI M a g N T (flat p ((b, e) :: s2) ++ st) M4 := t4
      rcases hb3 with z | ⟨z1, z2, z3, z4⟩
      · subst z
        obtain ⟨f', hf'⟩ := hJ [(b, e)] 1 (Or.inl ⟨rfl, hb2⟩)
        exact k_MM_list_11 t4.1.1 hp (i32s (by omega) (by omega)) (i32s (by omega) (by omega)) (i32s (by omega) (by omega)) (i32s (by omega) (by omega)) ⟨i32s (by omega) (by omega), fun _ => ⟨(b, e) :: s2, f', t4', sT.trans s4, hf', by show (e - b) + rsum s2 ≤ _; have := pb.1; omega⟩, fun q => by omega⟩
      · have := ih (b - 1) M4 ((b, e) :: s2) (by have := pb.1; omega) (by have := pb.1; omega) z4 t4' (sT.trans s4) (fun s f q => ?_) ⟨by show (e - b) + rsum s2 ≤ _; have := pb.1; omega, by simp only [List.length_cons]; have := pb.1; omega⟩
        · rw [show (((b - 1 : Nat)) : Int) = (b : Int) - 1 by first | rfl | omega, show (b : Int) - 1 - 1 = (b : Int) - 1 + (-1) by first | rfl | omega] at this
          exact this
        · have k : JM (wk M a) (f + 1) i e (s ++ [(b, e)]) := Or.inr ⟨b - 1, s, z3, z4, by rw [show b - 1 + 1 = b by first | rfl | omega]; exact hb2, by rw [show b - 1 + 1 = b by first | rfl | omega], q⟩
          obtain ⟨f', hf'⟩ := hJ _ _ k
          refine ⟨f', ?_⟩
          rw [List.append_assoc] at hf'
          exact hf'
    -- back to the beginning of that part
    suffices H2 : ∀ (c k : Nat), k = b + c → k ≤ e → h_MM_list_11 G (d + 1) a p i e (dp (wk M a) b (k - b)) ((k : Int) - 1) M3 (fun M3 => ∃ rs f, TI M a g N T (flat p rs ++ st) M3 ∧ sameX M2 M3 g ∧ JM (wk M a) f i j rs ∧ rsum rs ≤ j - i) by
      have := H2 (e - b) e (by have := pb.1; omega) (Nat.le_refl _)
      rw [hbl.1] at this
      exact this
    intro c
    induction c with
    | zero =>
      intro k hk hke
      have ek : k = b := by omega
      subst ek
      rw [show k - k = 0 by first | rfl | omega]
      show h_MM_list_11 G (d + 1) a p i e 0 ((k : Int) - 1) M3 _
      have h36' : h_MM_list_36 G (d + 1) a p i e 0 ((k : Int) - 1) 35 M3 (fun M3 => ∃ rs f, TI M a g N T (flat p rs ++ st) M3 ∧ sameX M2 M3 g ∧ JM (wk M a) f i j rs ∧ rsum rs ≤ j - i) := by
        refine k_MM_list_36 hO3 hp (i32s (by omega) (by omega)) (i32s (by omega) (by omega)) (i32s (by omega) (by omega)) (i32s (by omega) (by omega)) (i32s (by omega) (by omega)) (fun v hv => ?_)
        rw [if_neg (by omega), if_neg (by omega)] at hv
        subst hv
        exact ⟨i32s (by omega) (by omega), fun _ => ⟨hK, hjob⟩, fun q => absurd ⟨rfl, rfl⟩ q⟩
      refine k_MM_list_11 hO3 hp (i32s (by omega) (by omega)) (i32s (by omega) (by omega)) (i32s (by omega) (by omega)) (i32s (by omega) (by omega)) ⟨i32s (by omega) (by omega), fun q => by omega, fun _ => ⟨fun q => ⟨hK, ?_⟩, fun _ => h36'⟩⟩
      rcases hb3 with z | ⟨z1, z2, z3, z4⟩
      · omega
      · rw [show (k : Int) - 1 = ((k - 1 : Nat) : Int) by first | rfl | omega]
        refine (s_MM_word1 (d := d) hO3 w3 (by have := pb.1; omega)).mono (fun x M5 h5 => ?_)
        obtain ⟨e5, hx⟩ := h5
        subst e5
        rw [hwk3, z3] at hx
        subst hx
        rw [show (((k - 1 : Nat)) : Int) = (k : Int) - 1 by first | rfl | omega]
        exact ⟨i32s (by omega) (by omega), hO3, h36'⟩
    | succ c ihc =>
      intro k hk hke
      have nx := ihc (k - 1) (by omega) (by omega)
      have db := dp_b (w := wk M a) (i := b) (k - b)
      have db1 := dp_b (w := wk M a) (i := b) (k - 1 - b)
      have hds : dp (wk M a) b (k - b) = dp (wk M a) b (k - 1 - b) + (if wk M a (k - 1) = 36 then 1 else if wk M a (k - 1) = 37 then -1 else 0) := by
        rw [show k - b = (k - 1 - b) + 1 by first | rfl | omega, dp_s, show b + (k - 1 - b) = k - 1 by first | rfl | omega]
      refine k_MM_list_11 hO3 hp (i32s (by omega) (by omega)) (i32s (by omega) (by omega)) (i32s (by omega) (by omega)) (i32s (by omega) (by omega)) ⟨i32s (by omega) (by omega), fun q => by omega, fun _ => ⟨fun q => ⟨hK, ?_⟩, fun q => by omega⟩⟩
      rw [show (k : Int) - 1 = ((k - 1 : Nat) : Int) by first | rfl | omega]
      refine (s_MM_word1 (d := d) hO3 w3 (by omega)).mono (fun x M5 h5 => ?_)
      obtain ⟨e5, hx⟩ := h5
      subst e5
      rw [hwk3] at hx
      refine ⟨by rw [hx, ← hwk3]; exact wk32 hO3, hO3, k_MM_list_36 hO3 hp (i32s (by omega) (by omega)) (i32s (by omega) (by omega)) (i32s (by omega) (by omega)) (i32s (by omega) (by omega)) (by rw [hx, ← hwk3]; exact wk32 hO3) (fun v hv => ?_)⟩
      have hv' : v = dp (wk M a) b (k - 1 - b) := by
        rw [hx] at hv
        split at hv <;> (try split at hv) <;> split at hds <;> (try split at hds) <;> omega
      have hnk := hnc (k - 1 - b) (by omega)
      rw [show b + (k - 1 - b) = k - 1 by first | rfl | omega] at hnk
      refine ⟨i32s (by omega) (by omega), fun q => absurd (by rw [← hx]; exact q.2) (hnk (by omega)), fun _ => ?_⟩
      rw [hv', show ((k - 1 : Nat) : Int) + (-1) = ((k - 1 : Nat) : Int) - 1 by first | rfl | omega]
      exact nx
theorem x_MM_numberOf {k : Nat} (hO : mOk M) (h : Wx M a N) (hk : k < N) (h2 : wk M a k = 2) : Ci G y_MM_numberOf (d + 2) [vr a, vi k] M (fun x M' => M' = M ∧ (0 ≤ x ∧ x < 1000000000) ∧ x = numq (nt M (mR M a 2)) (nt M (a + 7) k).toNat (nt M (a + 9) k - nt M (a + 7) k).toNat) := by
  have h0 := h
  obtain ⟨⟨w, l, b⟩, l7, l9, wo, hT⟩ := h
  obtain ⟨-, ⟨p1, p2, p3⟩, p4, p5, -⟩ := wo k hk
  obtain ⟨p6, p7⟩ := p5 h2
  have hp := w.tape.2.1
  refine k_MM_numberOf hO (i32s (by omega) (by omega)) ⟨w.1.1, (s_MM_place0 (d := d) hO h0 hk).mono (fun x M1 e1 => ?_)⟩
  obtain ⟨e1, hx⟩ := e1
  subst e1
  have hp9 : i32 x := by rw [hx]; exact (hO _ _).1
  refine ⟨hp9, hO, ?_⟩
  suffices H : ∀ (c t : Nat) (v : Int), (t : Int) + c = nt M1 (a + 9) k - nt M1 (a + 7) k → 0 ≤ v → v < 10 ^ t → v = numq (nt M1 (mR M1 a 2)) (nt M1 (a + 7) k).toNat t → h_MM_numberOf_8 G (d + 1) a k v (nt M1 (a + 7) k + t) M1 (fun x M' => M' = M1 ∧ (0 ≤ x ∧ x < 1000000000) ∧ x = numq (nt M1 (mR M1 a 2)) (nt M1 (a + 7) k).toNat (nt M1 (a + 9) k - nt M1 (a + 7) k).toNat) by
    have := H (nt M1 (a + 9) k - nt M1 (a + 7) k).toNat 0 0 (by omega) (by omega) (by decide) rfl
    rw [hx]
    rw [show nt M1 (a + 7) k + ((0 : Nat) : Int) = nt M1 (a + 7) k by first | rfl | omega] at this
    exact this
  intro c
  induction c with
  | zero =>
    intro t v ht v0 v1 v2
    have hb := ten_pow_le (n := t) (m := 9) (by omega)
    have e9 : (10 : Int) ^ 9 = 1000000000 := by decide
    refine k_MM_numberOf_8 hO (i32s (by omega) (by omega)) ⟨by omega, by omega⟩ (i32s (by omega) (by omega)) ?_
    rw [w.1.2.2.1.2.2.1]
    refine ⟨w.1.1, (w.nu n9).1, (s_MN_at hO (w.nu n9) (by omega)).mono (fun y M2 e2 => ?_)⟩
    obtain ⟨e2, hy⟩ := e2
    subst e2
    exact ⟨by rw [hy]; exact (hO _ _).1, hO, fun _ => ⟨rfl, ⟨v0, by omega⟩, by rw [v2]; congr 1; omega⟩, fun q => by omega⟩
  | succ c ih =>
    intro t v ht v0 v1 v2
    have hb := ten_pow_le (n := t) (m := 8) (by omega)
    have e8 : (10 : Int) ^ 8 = 100000000 := by decide
    have hpw : (10 : Int) ^ (t + 1) = 10 ^ t * 10 := Int.pow_succ _ _
    refine k_MM_numberOf_8 hO (i32s (by omega) (by omega)) ⟨by omega, by omega⟩ (i32s (by omega) (by omega)) ?_
    rw [w.1.2.2.1.2.2.1]
    refine ⟨w.1.1, (w.nu n9).1, (s_MN_at hO (w.nu n9) (by omega)).mono (fun y M2 e2 => ?_)⟩
    obtain ⟨e2, hy⟩ := e2
    subst e2
    refine ⟨by rw [hy]; exact (hO _ _).1, hO, fun q => by omega, fun _ => ⟨w.1.1, (w.nu hp).1, ?_⟩⟩
    have ee : nt M2 (a + 7) k + (t : Int) = (((nt M2 (a + 7) k + (t : Int)).toNat : Nat) : Int) := by omega
    have hd := p7 (nt M2 (a + 7) k + (t : Int)).toNat (by omega) (by omega)
    rw [ee]
    refine (s_MN_at hO (w.nu hp) (by omega)).mono (fun z M3 e3 => ?_)
    obtain ⟨e3, hz⟩ := e3
    subst e3
    refine ⟨by rw [hz]; exact (hO _ _).1, hO, ?_⟩
    have nx := ih (t + 1) (10 * v + z - 48) (by omega) (by omega) (by omega) (by
      show _ = 10 * numq (nt M3 (mR M3 a 2)) (nt M3 (a + 7) k).toNat t + (nt M3 (mR M3 a 2) ((nt M3 (a + 7) k).toNat + t) - 48)
      rw [← v2, hz, show (nt M3 (a + 7) k + (t : Int)).toNat = (nt M3 (a + 7) k).toNat + t by first | rfl | omega]
      omega)
    rw [show nt M3 (a + 7) k + ((t + 1 : Nat) : Int) = (((nt M3 (a + 7) k + (t : Int)).toNat : Nat) : Int) + 1 by first | rfl | omega] at nx
    exact nx
end NDX
end
section
/-! The reference's tree, exactly. -/
section RNX
variable {G : mG} {d a N g T : Nat} {M M2 M3 : mM} {root : Int} {Q : Int → mM → Prop}
/-- what a leaf's node holds -/
def nvq (M : mM) (a k : Nat) : Int := if wk M a k = 1 then (k : Int) else if wk M a k = 2 then numq (nt M (mR M a 2)) (nt M (a + 7) k).toNat (nt M (a + 9) k - nt M (a + 7) k).toNat else 0
abbrev Tm (M M3 : mM) (a g c : Nat) (x : Int) (i j n e : Nat) : Prop := Td (wk M a) (nt M (a + 7)) (nvq M a) (so M3 g) (pm M3 g) (va M3 g) (fp M3 g) (np M3 g) c x i j n e
abbrev Tmb (M M3 : mM) (a g : Nat) (x : Int) (rs : List (Nat × Nat)) (n e : Nat) : Prop := Tbq (wk M a) (nt M (a + 7)) (nvq M a) (so M3 g) (pm M3 g) (va M3 g) (fp M3 g) (np M3 g) x rs n e
/-- lists that a tree leaves alone -/
theorem TI.oth {st : List Int} {q : Nat} (h : TI M a g N T st M2) (hq : q ∈ nums a) (hn : ¬ trP a g q) : sameN M M2 q := h.1.lst hq hn
theorem TI.n79 {st : List Int} (h : TI M a g N T st M2) (hw : Wd M a) : (∀ k, nt M2 (a + 7) k = nt M (a + 7) k) ∧ (∀ k, nt M2 (a + 9) k = nt M (a + 9) k) ∧ (∀ k, nt M2 (mR M2 a 2) k = nt M (mR M a 2) k) := by
  have hg := h.2.2.2.2.2
  have no : Hid _ := tL_no hg hw
  have r := h.1.rfl_a hw (fun q hq => trP_in hg hq)
  refine ⟨fun k => (h.oth n7 (fun q => ?_)).2.1 k, fun k => (h.oth n9 (fun q => ?_)).2.1 k, fun k => ?_⟩
  · rcases q with q | q
    · exact no.2.1 q
    · omega
  · rcases q with q | q
    · exact no.2.2.1 q
    · omega
  · rw [r]
    refine (h.oth hw.tape.2.1 (fun q => ?_)).2.1 k
    rcases q with q | q
    · exact no.2.2.2.1 q
    · rcases hw.1.2.1 with y | y <;> rw [y.2] at q <;> omega
theorem TI.nv {st : List Int} {k : Nat} (h : TI M a g N T st M2) (hw : Wd M a) : nvq M2 a k = nvq M a k := by
  obtain ⟨k1, k2, k3⟩ := h.n79 hw
  unfold nvq
  rw [h.wk hw, k1, k2, show nt M2 (mR M2 a 2) = nt M (mR M a 2) from funext k3]
/-- a job is done: its tree stands, joined to its parent -/
def RunX (G : mG) (d : Nat) (M : mM) (a g N : Nat) (root : Int) (Q : Int → mM → Prop) (L : Nat) : Prop := ∀ i j, j - i ≤ L → Eo (wk M a) 6 i j → j < N → ∀ (M2 : mM) (T : Nat) (p : Int) (st : List Int), TI M a g N T ((j : Int) :: (i : Int) :: p :: st) M2 → -1 ≤ p → p < T → chn M2 g T p → T + (j - i) ≤ 32760 → st.length + 3 * (j - i) ≤ 49900 → (∀ (M3 : mM) (T' : Nat), TI M a g N T' st M3 → T < T' → T' ≤ T + (j - i) → JE M2 M3 g T p → To (nmw (wk M a) N) M3 g 0 T T' → np M3 g T = -1 → (Tm M M3 a g 0 0 i j T T' ∧ ∀ n, n < T → pm M3 g n = pm M2 g n) → h_MM_tree_26 G (d + 5) a root M3 Q) → h_MM_tree_26 G (d + 5) a root M2 Q
theorem ch_runx {L : Nat} {n : Nat} {st : List Int} (hr : RunX G d M a g N root Q L) : ∀ (rs : List (Nat × Nat)) (M2 : mM) (T : Nat), rs ≠ [] → (∀ i j, (i, j) ∈ rs → j - i ≤ L ∧ Eo (wk M a) 6 i j ∧ j < N) → TI M a g N T (flat n rs ++ st) M2 → n < T → chn M2 g T n → T + rsum rs ≤ 32760 → st.length + 3 * rsum rs ≤ 49900 → (∀ (M3 : mM) (T' : Nat), TI M a g N T' st M3 → T < T' → T' ≤ T + rsum rs → JE M2 M3 g T n → To (nmw (wk M a) N) M3 g rs.length T T' → (Tmb M M3 a g (-1) rs T T' ∧ ∀ n, n < T → pm M3 g n = pm M2 g n) → h_MM_tree_26 G (d + 5) a root M3 Q) → h_MM_tree_26 G (d + 5) a root M2 Q
  | [], _, _, h, _, _, _, _, _, _, _ => absurd rfl h
  | [(i, j)], M2, T, _, hm, ht, hn, hc, hb, hl, hQ => by
    obtain ⟨a1, a2, a3⟩ := hm i j (List.mem_singleton.2 rfl)
    have e : rsum [(i, j)] = j - i := by show (j - i) + 0 = _; omega
    rw [e] at hb hl hQ
    exact hr i j a1 a2 a3 M2 T n st ht (by omega) (by omega) hc (by omega) (by omega) (fun M3 T' t3 h1 h2 je to nt tm => hQ M3 T' t3 h1 h2 je (to.one nt) ⟨⟨tm.1, nt⟩, tm.2⟩)
  | (i, j) :: r2 :: rs, M2, T, _, hm, ht, hn, hc, hb, hl, hQ => by
    obtain ⟨a1, a2, a3⟩ := hm i j (List.mem_cons_self ..)
    have pij := a2.pr.1
    have e : rsum ((i, j) :: r2 :: rs) = (j - i) + rsum (r2 :: rs) := rfl
    rw [e] at hb hl hQ
    have hrs : (r2 :: rs).length ≤ rsum (r2 :: rs) := by
      have : ∀ l : List (Nat × Nat), (∀ i j, (i, j) ∈ l → Eo (wk M a) 6 i j) → l.length ≤ rsum l := by
        intro l
        induction l with
        | nil => intro _; exact Nat.le_refl _
        | cons x l ih =>
          intro h
          have k := ih (fun i j q => h i j (List.mem_cons_of_mem _ q))
          have := (h x.1 x.2 (List.mem_cons_self ..)).pr.1
          show l.length + 1 ≤ (x.2 - x.1) + rsum l
          omega
      exact this _ (fun i j q => (hm i j (List.mem_cons_of_mem _ q)).2.1)
    have hfl := flat_len (n := (n : Int)) (r2 :: rs)
    refine hr i j a1 a2 a3 M2 T n (flat n (r2 :: rs) ++ st) ht (by omega) (by omega) hc (by omega) (by rw [List.length_append, hfl]; omega) (fun M3 T3 t3 h1 h2 je to nt tm => ?_)
    have hchain := je.chain (T' := T3) (by omega) (by omega) h1 nt
    refine ch_runx hr (r2 :: rs) M3 T3 (by simp) (fun i j q => hm i j (List.mem_cons_of_mem _ q)) t3 (by omega) (fun _ => by
      obtain ⟨f, c, k1, k2⟩ := hchain
      exact Or.inr ⟨f, c, T, k1, k2⟩) (by omega) (by omega) (fun M4 T4 t4 g1 g2 je2 to2 tm2 => ?_)
    obtain ⟨j1, j2, j3, j4⟩ := je.next je2 (by omega) (by omega) h1 nt
    refine hQ M4 T4 t4 (by omega) (by omega) j1 ?_ ⟨Exists.intro T3 ⟨tm.1.cg (Or.inl ⟨rfl, a2⟩) (fun k u v => ⟨(j3 k v).1, tm2.2 k v, (j3 k v).2.1, (j3 k v).2.2⟩) (fun k u v => j4 k v (by omega)) (fun u => absurd u (by decide)), j2, tm2.1⟩, fun n hn => (tm2.2 n (by omega)).trans (tm.2 n hn)⟩
    have to' : To (nmw (wk M a) N) M4 g 0 T T3 := to.fr (fun k k1 k2 => j3 k k2) (fun k k1 k2 => j4 k k2 (by omega)) (fun z => absurd rfl z)
    exact To.cons (by show 1 ≤ rs.length + 1; omega) to' j2 to2
/-- a job is taken -/
theorem TI.tkx {st : List Int} {x y : Int} (h : TI M a g N T (x :: st) M2) (t : tkQ M2 (a + 91) y M3) : TI M a g N T st M3 ∧ y = x ∧ sameX M2 M3 g := by
  have w := h.2.1.1.1
  have hg := h.2.2.2.2.2
  have m := mv_take w n91 t
  obtain ⟨k1, k2, k3⟩ := h.wx m (fun q hq => Or.inr hq)
  obtain ⟨s1, s2⟩ := h.2.2.2.2.1.take t
  have sm : ∀ q, tL g q → sameN M2 M3 q := fun q hq => m.lst (tL_in hg hq) (fun z => by rw [z] at hq; exact (tL_no hg w).2.2.2.2 hq)
  refine ⟨⟨k1, k2, k3, fun q hq => by rw [(sm q hq).1]; exact h.2.2.2.1 q hq, s1, hg⟩, s2, fun n => ⟨(sm _ (by first | exact tLk1 g | exact tLk3 g | exact tLk5 g | exact tLk7 g | exact tLk9 g | exact tLk11 g | omega)).2.1 n, (sm _ (by first | exact tLk1 g | exact tLk3 g | exact tLk5 g | exact tLk7 g | exact tLk9 g | exact tLk11 g | omega)).2.1 n, (sm _ (by first | exact tLk1 g | exact tLk3 g | exact tLk5 g | exact tLk7 g | exact tLk9 g | exact tLk11 g | omega)).2.1 n, (sm _ (by first | exact tLk1 g | exact tLk3 g | exact tLk5 g | exact tLk7 g | exact tLk9 g | exact tLk11 g | omega)).2.1 n⟩, fun n => (sm _ (by first | exact tLk1 g | exact tLk3 g | exact tLk5 g | exact tLk7 g | exact tLk9 g | exact tLk11 g | omega)).2.1 n⟩
/-- a node that has its parts -/
theorem nd_fx {M7 M8 M9 : mM} (s78 : sameT M7 M8 g) (hf7 : fp M7 g T = -1) (je9 : JE M8 M9 g (T + 1) (T : Int)) : fp M9 g T = ((T + 1 : Nat) : Int) ∧ so M9 g T = so M7 g T := by
  refine ⟨?_, by rw [(je9.1 T (by omega)).1, (s78 T).1]⟩
  rcases je9.2 with ⟨q, -⟩ | ⟨q0, q1, q2, q3⟩ | ⟨q0, f, c, l, q1, q2, q3, q4⟩
  · omega
  · rw [q2 T (by omega), if_pos (by omega)]
  · exfalso
    rw [Int.toNat_natCast, (s78 T).2.2.1, hf7] at q1
    omega
end RNX
section MKX
variable {G : mG} {d a N g : Nat} {M : mM} {root : Int} {Q : Int → mM → Prop}
theorem tr_runx (hw : Wd M a) (hroot : i32 root) : ∀ L, RunX G d M a g N root Q L := by
  intro L
  induction L with
  | zero =>
    intro i j hl he
    have := he.pr.1
    omega
  | succ L ih =>
    intro i j hl he hjN M2 T p st t2 hp1 hpT hc hb hlen hQ
    have hij := he.pr.1
    have hl1 : j ≤ L + 1 + i := by omega
    have hb1 : T + j ≤ 32760 + i := by omega
    have hn1 : st.length + 3 * j ≤ 49900 + 3 * i := by omega
    clear hl hb hlen
    have hg := t2.2.2.2.2.2
    have hN := t2.2.1.1.2.2
    have r18 : ∀ {T : Nat} (s : List Int) (M4 : mM), TI M a g N T s M4 → mR M4 a 18 = a + 91 ∧ mK M4 a = 14 ∧ mK M4 (a + 91) = 15 ∧ mOk M4 ∧ Nu M4 (a + 91) := fun s M4 h4 => by
      have w := h4.2.1.1.1
      exact ⟨w.1.2.2.2.2.1.2.2.2.1, w.1.1, (w.nu n91).1, h4.1.1, w.nu n91⟩
    have q2 := r18 _ _ t2
    have l2 : mI M2 (a + 91) 1 = (((j : Int) :: (i : Int) :: p :: st).length : Int) := t2.2.2.2.2.1.1
    simp only [List.length_cons] at l2
    have hp32 : i32 p := i32s (by omega) (by omega)
    refine k_MM_tree_26 q2.2.2.2.1 hroot ?_
    rw [q2.1]
    refine ⟨q2.2.1, q2.2.2.1, fun z => by omega, fun _ => (s_MN_take q2.2.2.2.1 q2.2.2.2.2 (by unfold ln; omega)).mono (fun y1 M3 k3 => ?_)⟩
    obtain ⟨t3, e3, s3⟩ := t2.tkx k3
    subst e3
    have q3 := r18 _ _ t3
    have l3 : mI M3 (a + 91) 1 = (((i : Int) :: p :: st).length : Int) := t3.2.2.2.2.1.1
    simp only [List.length_cons] at l3
    rw [q3.1]
    refine ⟨i32s (by omega) (by omega), q3.2.2.2.1, q3.2.1, q3.2.2.1, (s_MN_take q3.2.2.2.1 q3.2.2.2.2 (by unfold ln; omega)).mono (fun y2 M4 k4 => ?_)⟩
    obtain ⟨t4, e4, s4⟩ := t3.tkx k4
    subst e4
    have q4 := r18 _ _ t4
    have l4 : mI M4 (a + 91) 1 = ((p :: st).length : Int) := t4.2.2.2.2.1.1
    simp only [List.length_cons] at l4
    rw [q4.1]
    refine ⟨i32s (by omega) (by omega), q4.2.2.2.1, q4.2.1, q4.2.2.1, (s_MN_take q4.2.2.2.1 q4.2.2.2.2 (by unfold ln; omega)).mono (fun y3 M5 k5 => ?_)⟩
    obtain ⟨t5, e5, s5⟩ := t4.tkx k5
    subst e5
    have q5 := r18 _ _ t5
    have x25 : sameX M2 M5 g := (s3.trans s4).trans s5
    have s25 : sameT M2 M5 g := x25.1
    have hc5 : chn M5 g T y3 := hc.mono hpT (Nat.le_refl _) (fun n _ => ⟨(s25 n).2.2.1, (s25 n).2.2.2⟩)
    refine ⟨hp32, q5.2.2.2.1, q5.2.1, ?_⟩
    -- words, in whatever state
    have wkx : ∀ {T : Nat} (s : List Int) (M4 : mM), TI M a g N T s M4 → Wn M4 a N ∧ mOk M4 ∧ wk M4 a = wk M a ∧ mK M4 a = 14 := fun s M4 h4 => ⟨h4.2.1.1, h4.1.1, h4.wk hw, h4.2.1.1.1.1.1⟩
    have w5 := wkx _ _ t5
    -- a node is made and joined
    have mk : ∀ (s : Int) (wd fr : Nat) (R : Int → mM → Prop), i32 s → wd < N → fr < N → (∀ M7, TI M a g N (T + 1) st M7 → JE M2 M7 g T y3 → fp M7 g T = -1 → np M7 g T = -1 → so M7 g T = s → va M7 g T = 0 → (pm M7 g T = nt M (a + 7) wd ∧ ∀ n, n < T → pm M7 g n = pm M2 g n) → R (T : Int) M7) → Ci G y_MM_node (d + 4) [vr a, vi s, vi wd, vi fr] M5 (fun x M6 => i32 x ∧ mOk M6 ∧ (mK M6 a = 14 ∧ Cv G y_MM_join (d + 4) [vr a, vi y3, vi x] M6 (fun M7 => mOk M7 ∧ R x M7))) := fun s wd fr R hs hwd hfr hR => by
      refine (x_MM_node (d := d + 2) hs w5.2.1 t5.2.1 hwd hfr hg t5.2.2.1 t5.2.2.2.1 (by omega)).mono (fun x M6 h6 => ?_)
      obtain ⟨m6, ex6, n6, o6, a1, a2, a3, a4, a5, a6⟩ := h6
      subst ex6
      have t6 := t5.nd m6 n6
      have hc6 : chn M6 g (T + 1) y3 := hc5.mono hpT (by omega) (fun n hn => ⟨(o6 n hn).2.2.1, (o6 n hn).2.2.2⟩)
      refine ⟨i32s (by omega) (by omega), m6.1, (wkx _ _ t6).2.2.2, (x_MM_join (d := d + 3) (x := T) t6 (by omega) hp32 (by omega) (by omega) hc6).mono (fun M7 h7 => ?_)⟩
      obtain ⟨t7, j7⟩ := h7
      obtain ⟨b1, b2, b3, b4, b5⟩ := nj (st := st) hpT hc5 o6 a3 a4 j7.1
      exact ⟨t7.1.1, hR M7 t7 (b1.pre hpT (fun n _ => s25 n)) b2 b3 (by rw [b4]; exact a1) (by rw [b5]; exact a2) ⟨by rw [j7.2, a5, (t5.n79 hw).1], fun n hn => by rw [j7.2, a6 n hn, x25.2]⟩⟩
    -- the parts of the new node
    have kids : ∀ (rs : List (Nat × Nat)) (M7 M8 : mM), rs ≠ [] → (∀ i' j', (i', j') ∈ rs → j' - i' ≤ L ∧ Eo (wk M a) 6 i' j' ∧ j' < N) → rsum rs + 1 ≤ j - i → TI M a g N (T + 1) st M7 → JE M2 M7 g T y3 → fp M7 g T = -1 → np M7 g T = -1 → ari (so M7 g T) rs.length → TI M a g N (T + 1) (flat (T : Int) rs ++ st) M8 → sameX M7 M8 g → (∀ n, n < T → pm M7 g n = pm M2 g n) → (∀ (M9 : mM) (T9 : Nat), so M9 g T = so M7 g T → pm M9 g T = pm M7 g T → fp M9 g T = ((T + 1 : Nat) : Int) → Tmb M M9 a g (-1) rs (T + 1) T9 → Tm M M9 a g 0 0 i j T T9) → h_MM_tree_26 G (d + 5) a root M8 Q := fun rs M7 M8 hne hrs hsum t7 je f7 n7 ha t8 s8' p7 mkT => by
      have s8 := s8'.1
      refine ch_runx (n := T) (st := st) ih rs M8 (T + 1) hne hrs t8 (by omega) (fun _ => Or.inl (by rw [Int.toNat_natCast, (s8 T).2.2.1]; exact f7)) (by omega) (by omega) (fun M9 T9 t9 h1 h2 je9 to9 tm9 => ?_)
      obtain ⟨b1, b2, b3⟩ := nd_fin (a := a) (N := N) hpT je s8 f7 n7 je9 (by cases rs with | nil => exact absurd rfl hne | cons x rs => show 1 ≤ rs.length + 1; omega) ha (T9 := T9) (M := M) to9
      have fx := nd_fx s8 f7 je9
      have e9 : pm M9 g T = pm M7 g T := by rw [tm9.2 T (by omega), s8'.2]
      exact hQ M9 T9 t9 (by omega) (by omega) b1 b2 b3 ⟨mkT M9 T9 fx.2 e9 fx.1 tm9.1, fun n hn => by rw [tm9.2 n (by omega), s8'.2, p7 n hn]⟩
    have single : ∀ {i1 j1 : Nat}, ∀ i' j', (i', j') ∈ [(i1, j1)] → i' = i1 ∧ j' = j1 := fun i' j' q => Prod.mk.inj (List.mem_singleton.1 q)
    refine k_MM_part w5.2.1 hp32 (i32s (by omega) (by omega)) (i32s (by omega) (by omega)) ⟨w5.2.2.2, (s_MM_loosest (d := d) w5.2.1 w5.1 hij (by omega)).mono (fun x M6 h6 => ?_)⟩
    obtain ⟨e6, hx⟩ := h6
    subst e6
    rw [w5.2.2.1] at hx
    rcases he.sp with ⟨m, q, hlo, hm, hq, e1, e2, e3⟩ | ⟨m, hlo, hm, e1, e2⟩ | ⟨hlo, h36, h37, e1⟩ | ⟨hlo, h25, e1⟩ | ⟨hlo, hj1, hlf⟩ | ⟨hlo, h14, h36, h37, e7⟩
    · -- a question
      have p1 := e1.pr.1
      have p2 := e2.pr
      have p3 := e3.pr.1
      have ex : x = (m : Int) := by rw [hx]; exact hlo
      subst ex
      have hmN : m < N := by have := p2.1; omega
      refine ⟨i32s (by omega) (by omega), w5.2.1, fun z => by omega, fun _ => ⟨w5.2.2.2, (s_MM_word1 (d := d + 3) w5.2.1 w5.1 hmN).mono (fun y0 M0 h0 => ?_)⟩⟩
      obtain ⟨e0, hy0⟩ := h0
      subst e0
      rw [w5.2.2.1] at hy0
      have hy32 : i32 y0 := by rw [hy0, ← w5.2.2.1]; exact wk32 w5.2.1
      refine ⟨hy32, w5.2.1, w5.2.2.2, mk y0 m i _ hy32 hmN (by omega) (fun M7 t7 je f7 n7 so7 _ pm7 => ⟨(wkx _ _ t7).2.2.2, ?_⟩)⟩
      · have w7 := wkx _ _ t7
        rw [hy0] at so7
        refine (s_MM_word1 (d := d + 3) w7.2.1 w7.1 hmN).mono (fun y M8 h8 => ?_)
        obtain ⟨e8, hy⟩ := h8
        subst e8
        rw [w7.2.2.1, hm] at hy
        refine ⟨i32s (by omega) (by omega), w7.2.1, fun _ => ⟨w7.2.2.2, (s_MM_colonOf (d := d + 2) (q := q) w7.2.1 w7.1 (by have := p2.1; omega) (by omega) (by omega) (by rw [w7.2.2.1]; exact p2.2.2.2.2.1) (by rw [w7.2.2.1]; exact hq)).mono (fun z M9 h9 => ?_)⟩, fun z => absurd hy z⟩
        obtain ⟨e9, hz⟩ := h9
        subst e9 hz
        refine ⟨i32s (by omega) (by omega), w7.2.1, w7.2.2.2, (x_MM_job (d := d + 3) t7 (by omega) (i32s (by omega) (by omega)) (i32s (by omega) (by omega)) (i32s (by omega) (by omega))).mono (fun Ma ha => ?_)⟩
        obtain ⟨ta, sa⟩ := ha
        refine ⟨ta.1.1, (wkx _ _ ta).2.2.2, (x_MM_job (d := d + 3) ta (by simp only [List.length_cons]; omega) (i32s (by omega) (by omega)) (i32s (by omega) (by omega)) (i32s (by omega) (by omega))).mono (fun Mb hb' => ?_)⟩
        obtain ⟨tb, sb⟩ := hb'
        refine ⟨tb.1.1, (wkx _ _ tb).2.2.2, (x_MM_job (d := d + 3) tb (by simp only [List.length_cons]; omega) (i32s (by omega) (by omega)) (i32s (by omega) (by omega)) (i32s (by omega) (by omega))).mono (fun Mc hc' => ?_)⟩
        obtain ⟨tc, sc⟩ := hc'
        refine ⟨tc.1.1, tc.1.1, kids [(i, m), (m + 1, q), (q + 1, j)] M9 Mc (by simp) (fun i' j' z => ?_) (by show (m - i) + ((q - (m + 1)) + ((j - (q + 1)) + 0)) + 1 ≤ j - i; have := p2.1; omega) t7 je f7 n7 (by rw [so7, hm]; exact Or.inr (Or.inr (Or.inl ⟨rfl, rfl⟩))) tc ((sa.trans sb).trans sc) pm7.2 (fun Mx Tx u1 u2 u3 u4 => ?_)⟩
        rotate_left
        · obtain ⟨n1, v1, v2, n2, v3, v4, v5, v6⟩ := u4
          unfold Tm; rw [Td_ask hlo (by omega) (by have := p2.1; omega) hm (clq_eo e2 hq (by omega))]
          exact ⟨n1, n2, ⟨by rw [u1, so7], by rw [u2, pm7.1], u3⟩, v1, v2, v3, v4, v5, v6⟩
        have hp2 := p2.1
        rcases List.mem_cons.1 z with z | z
        · obtain ⟨z1, z2⟩ := Prod.mk.inj z
          subst z1 z2
          exact ⟨by omega, e1.six (by omega), by omega⟩
        · rcases List.mem_cons.1 z with z | z
          · obtain ⟨z1, z2⟩ := Prod.mk.inj z
            subst z1 z2
            exact ⟨by omega, e2, by omega⟩
          · obtain ⟨z1, z2⟩ := single i' j' z
            subst z1 z2
            exact ⟨by omega, e3, by omega⟩
    · -- an operator of two parts
      have p1 := e1.pr.1
      have p2 := e2.pr.1
      have ex : x = (m : Int) := by rw [hx]; exact hlo
      subst ex
      have hmN : m < N := by omega
      refine ⟨i32s (by omega) (by omega), w5.2.1, fun z => by omega, fun _ => ⟨w5.2.2.2, (s_MM_word1 (d := d + 3) w5.2.1 w5.1 hmN).mono (fun y0 M0 h0 => ?_)⟩⟩
      obtain ⟨e0, hy0⟩ := h0
      subst e0
      rw [w5.2.2.1] at hy0
      have hy32 : i32 y0 := by rw [hy0, ← w5.2.2.1]; exact wk32 w5.2.1
      refine ⟨hy32, w5.2.1, w5.2.2.2, mk y0 m i _ hy32 hmN (by omega) (fun M7 t7 je f7 n7 so7 _ pm7 => ⟨(wkx _ _ t7).2.2.2, ?_⟩)⟩
      · have w7 := wkx _ _ t7
        rw [hy0] at so7
        refine (s_MM_word1 (d := d + 3) w7.2.1 w7.1 hmN).mono (fun y M8 h8 => ?_)
        obtain ⟨e8, hy⟩ := h8
        subst e8
        rw [w7.2.2.1] at hy
        refine ⟨by rw [hy, ← w7.2.2.1]; exact wk32 w7.2.1, w7.2.1, fun z => by omega, fun _ => ⟨w7.2.2.2, (x_MM_job (d := d + 3) t7 (by omega) (i32s (by omega) (by omega)) (i32s (by omega) (by omega)) (i32s (by omega) (by omega))).mono (fun Ma ha => ?_)⟩⟩
        obtain ⟨ta, sa⟩ := ha
        refine ⟨ta.1.1, (wkx _ _ ta).2.2.2, (x_MM_job (d := d + 3) ta (by simp only [List.length_cons]; omega) (i32s (by omega) (by omega)) (i32s (by omega) (by omega)) (i32s (by omega) (by omega))).mono (fun Mb hb' => ?_)⟩
        obtain ⟨tb, sb⟩ := hb'
        refine ⟨tb.1.1, tb.1.1, kids [(i, m), (m + 1, j)] M8 Mb (by simp) (fun i' j' z => ?_) (by show (m - i) + ((j - (m + 1)) + 0) + 1 ≤ j - i; omega) t7 je f7 n7 (by rw [so7]; exact Or.inr (Or.inl ⟨by omega, rfl⟩)) tb (sa.trans sb) pm7.2 (fun Mx Tx u1 u2 u3 u4 => ?_)⟩
        rotate_left
        · obtain ⟨n1, v1, v2, v3, v4⟩ := u4
          unfold Tm; rw [Td_bin hlo (by omega) (by omega) (by omega)]
          exact ⟨n1, ⟨by rw [u1, so7], by rw [u2, pm7.1], u3⟩, v1, v2, v3, v4⟩
        rcases List.mem_cons.1 z with z | z
        · obtain ⟨z1, z2⟩ := Prod.mk.inj z
          subst z1 z2
          exact ⟨by omega, e1, by omega⟩
        · obtain ⟨z1, z2⟩ := single i' j' z
          subst z1 z2
          exact ⟨by omega, e2, by omega⟩
    · -- parentheses
      have p1 := e1.pr.1
      have ex : x = -1 := by rw [hx]; exact hlo
      subst ex
      refine ⟨i32s (by omega) (by omega), w5.2.1, fun _ => ⟨w5.2.2.2, (s_MM_word1 (d := d + 3) w5.2.1 w5.1 (by omega)).mono (fun y M7 h7 => ?_)⟩, fun z => by omega⟩
      obtain ⟨e7, hy⟩ := h7
      subst e7
      rw [w5.2.2.1, h36] at hy
      refine ⟨i32s (by omega) (by omega), w5.2.1, fun _ => ⟨w5.2.2.2, ?_⟩, fun z => absurd hy z⟩
      rw [show (i : Int) + 1 = ((i + 1 : Nat) : Int) by first | rfl | omega, show (j : Int) - 1 = ((j - 1 : Nat) : Int) by first | rfl | omega]
      refine (x_MM_job (d := d + 3) t5 (by omega) hp32 (i32s (by omega) (by omega)) (i32s (by omega) (by omega))).mono (fun Ma ha => ?_)
      obtain ⟨ta, sa⟩ := ha
      have s2a : sameT M2 Ma g := s25.trans sa.1
      exact ⟨ta.1.1, ta.1.1, ih (i + 1) (j - 1) (by omega) e1 (by omega) Ma T y3 st ta hp1 hpT (hc.mono hpT (Nat.le_refl _) (fun n _ => ⟨(s2a n).2.2.1, (s2a n).2.2.2⟩)) (by omega) (by omega) (fun M9 T9 t9 b1 b2 je to nn tm => hQ M9 T9 t9 b1 (by omega) (je.pre hpT (fun n _ => s2a n)) to nn ⟨by rw [Tm, Td_par hlo hij h36]; exact tm.1, fun n hn => by rw [tm.2 n hn, sa.2, x25.2]⟩)⟩
    · -- a sign before
      have p1 := e1.pr.1
      have ex : x = -1 := by rw [hx]; exact hlo
      subst ex
      refine ⟨i32s (by omega) (by omega), w5.2.1, fun _ => ⟨w5.2.2.2, (s_MM_word1 (d := d + 3) w5.2.1 w5.1 (by omega)).mono (fun y M7 h7 => ?_)⟩, fun z => by omega⟩
      obtain ⟨e7, hy⟩ := h7
      subst e7
      rw [w5.2.2.1] at hy
      refine ⟨i32s (by omega) (by omega), w5.2.1, fun z => by omega, fun _ v hv => ⟨w5.2.2.2, mk v i i _ (by split at hv <;> exact i32s (by omega) (by omega)) (by omega) (by omega) (fun M8 t8 je8 f8 n8 so8 _ pm8 => ⟨fun _ => ⟨(wkx _ _ t8).2.2.2, ?_⟩, fun z => by omega⟩)⟩⟩
      rw [show (i : Int) + 1 = ((i + 1 : Nat) : Int) by first | rfl | omega]
      refine (x_MM_job (d := d + 3) t8 (by omega) (i32s (by omega) (by omega)) (i32s (by omega) (by omega)) (i32s (by omega) (by omega))).mono (fun Ma ha => ?_)
      obtain ⟨ta, sa⟩ := ha
      refine ⟨ta.1.1, k_MM_part_267 ta.1.1 ⟨ta.1.1, kids [(i + 1, j)] M8 Ma (by simp) (fun i' j' z => ?_) (by show (j - (i + 1)) + 0 + 1 ≤ j - i; omega) t8 je8 f8 n8 (by rw [so8]; exact Or.inl ⟨by split at hv <;> omega, rfl⟩) ta sa pm8.2 (fun Mx Tx u1 u2 u3 u4 => ?_)⟩⟩
      rotate_left
      · unfold Tm; rw [Td_pre hlo hij h25]
        refine ⟨⟨?_, by rw [u2, pm8.1], u3⟩, u4.1, u4.2⟩
        rw [u1, so8, hv, hy]; rcases h25 with z9 | z9 <;> simp [z9]
      obtain ⟨z1, z2⟩ := single i' j' z
      subst z1 z2
      exact ⟨by omega, e1, by omega⟩
    · -- a leaf
      have ex : x = -1 := by rw [hx]; exact hlo
      subst ex
      refine ⟨i32s (by omega) (by omega), w5.2.1, fun _ => ⟨w5.2.2.2, (s_MM_word1 (d := d + 3) w5.2.1 w5.1 (by omega)).mono (fun y M7 h7 => ?_)⟩, fun z => by omega⟩
      obtain ⟨e7, hy⟩ := h7
      subst e7
      rw [w5.2.2.1] at hy
      -- a leaf's value is written
      have leaf : ∀ (M8 M9 : mM) (v : Int), TI M a g N (T + 1) st M8 → JE M2 M8 g T y3 → fp M8 g T = -1 → np M8 g T = -1 → so M8 g T = y → i32 v → M9 = mUI M8 (mR M8 (g + 7) 0) T v → (y = 2 → 0 ≤ v ∧ v < 1000000000) → (y = 1 → 0 ≤ v ∧ v < N ∧ wk M a v.toNat = 1) → (pm M8 g T = nt M (a + 7) i ∧ ∀ n, n < T → pm M8 g n = pm M2 g n) → v = nvq M a i → h_MM_part_267 G (d + 4) M9 (fun M28 => mOk M28 ∧ h_MM_tree_26 G (d + 5) a root M28 Q) := fun M8 M9 v t8 je8 f8 n8 so8 hv e9 h2 h1 pm8 ev => by
        have w8 := t8.2.1.1.1
        have g7 : tL g (g + 7) := tLk7 g
        obtain ⟨m9, k1, k2, k3⟩ := mv_el hv t8.1.1 w8 (tL_in hg g7) e9
        obtain ⟨u1, u2, u3⟩ := t8.wx m9 (fun r hr => Or.inl (by rw [hr]; exact g7))
        have sm : ∀ r, r ∈ nums a → r ≠ g + 7 → sameN M8 M9 r := fun r hr hne => m9.lst hr hne
        have t9 : TI M a g N (T + 1) st M9 := ⟨u1, u2, u3, fun r hr => by
          by_cases z : r = g + 7
          · rw [z, k1]; exact t8.2.2.2.1 _ g7
          · rw [(sm r (tL_in hg hr) z).1]; exact t8.2.2.2.1 r hr, t8.2.2.2.2.1.same (sm _ n91 (fun z => by rw [← z] at g7; exact (tL_no hg w8).2.2.2.2 g7)), hg⟩
        have s1 : ∀ n, so M9 g n = so M8 g n := fun n => (sm _ (tL_in hg (by omega)) (by omega)).2.1 n
        have s9 : ∀ n, fp M9 g n = fp M8 g n := fun n => (sm _ (tL_in hg (by omega)) (by omega)).2.1 n
        have s11 : ∀ n, np M9 g n = np M8 g n := fun n => (sm _ (tL_in hg (by omega)) (by omega)).2.1 n
        have s7 : ∀ n, va M9 g n = if n = T then v else va M8 g n := k2
        have s3' : ∀ n, pm M9 g n = pm M8 g n := fun n => (sm _ (tL_in hg (by omega)) (by omega)).2.1 n
        refine k_MM_part_267 u1.1 ⟨u1.1, hQ M9 (T + 1) t9 (by omega) (by omega) (je8.post (fun n hn => ⟨s1 n, by rw [s7 n, if_neg (by omega)], s9 n, s11 n⟩)) (To.leaf (by rw [s9]; exact f8) (by rw [s1, so8]; omega) (fun z => ?_) (fun z => ?_)) (by rw [s11]; exact n8) ⟨?_, fun n hn => by rw [s3' n, pm8.2 n hn]⟩⟩
        rotate_left 2
        · subst hj1
          rw [Tm, Td_leaf hlo (by omega) hlf]
          exact ⟨rfl, by rw [s1, so8, hy], by rw [s3', pm8.1], by rw [s9]; exact f8, by rw [s7 T, if_pos rfl]; exact ev⟩
        · rw [s1, so8] at z
          rw [s7 T, if_pos rfl]
          exact h2 z
        · rw [s1, so8] at z
          rw [s7 T, if_pos rfl]
          exact h1 z
      refine ⟨i32s (by omega) (by omega), w5.2.1, fun z => by omega, fun _ v hv => ⟨w5.2.2.2, ?_⟩⟩
      rw [if_neg (by omega)] at hv
      subst hv
      refine mk v i i _ (i32s (by omega) (by omega)) (by omega) (by omega) (fun M8 t8 je8 f8 n8 so8 va8 pm8 => ⟨fun z => by omega, fun _ => ?_⟩)
      have w8 := wkx _ _ t8
      have wd8 := t8.2.1.1.1
      have gp := wd8.gp hg
      have u7 := wd8.nu (tL_in (q := g + 7) hg (tLk7 g))
      have l7 := t8.2.2.2.1 (g + 7) (by first | exact tLk7 g | exact gLk7 g | omega)
      have c7 : ((T + 1 : Nat) : Int) ≤ cp M8 (g + 7) := by rw [← l7]; exact u7.2.2.2.1.2
      have r3 : mR M8 g 3 = g + 7 := gp.2.1.2.2.2.1
      rw [t8.2.2.1, r3]
      refine ⟨fun z2 => ⟨w8.2.2.2, gp.1, u7.1, (x_MM_numberOf (d := d + 2) w8.2.1 t8.2.1 (by omega) (by rw [w8.2.2.1, ← hy]; exact z2)).mono (fun z M9 h9 => ?_)⟩, fun z2 => ⟨fun z1 => ⟨w8.2.2.2, gp.1, u7.1, u7.2.1, ⟨by omega, by have : mN M8 (mR M8 (g + 7) 0) = cp M8 (g + 7) := rfl; omega⟩, fun M9 e9 => ?_⟩, fun z1 => ⟨fun z => by omega, fun _ => ?_⟩⟩⟩
      · obtain ⟨e9, ⟨z0, z1⟩, z9⟩ := h9
        subst e9
        refine ⟨⟨by omega, by omega⟩, w8.2.1, u7.2.1, ⟨by omega, by have : mN M9 (mR M9 (g + 7) 0) = cp M9 (g + 7) := rfl; omega⟩, fun Ma ea => ?_⟩
        rw [Int.toNat_natCast] at ea
        exact leaf M9 Ma z t8 je8 f8 n8 so8 ⟨by omega, by omega⟩ ea (fun _ => ⟨z0, z1⟩) (fun q => by omega) pm8 (by
          obtain ⟨g1, g2, g3⟩ := t8.n79 hw
          unfold nvq
          rw [if_neg (by omega), if_pos (by omega), z9, g1, g2, show nt M9 (mR M9 a 2) = nt M (mR M a 2) from funext g3])
      · rw [Int.toNat_natCast] at e9
        exact leaf M8 M9 i t8 je8 f8 n8 so8 (i32s (by omega) (by omega)) e9 (fun q => absurd q z2) (fun _ => ⟨by omega, by omega, by rw [Int.toNat_natCast, ← hy]; exact z1⟩) pm8 (by unfold nvq; rw [if_pos (by rw [← hy]; exact z1)])
      · exact k_MM_part_267 w8.2.1 ⟨w8.2.1, hQ M8 (T + 1) t8 (by omega) (by omega) je8 (To.leaf f8 (by rw [so8]; omega) (fun z => by rw [so8] at z; exact absurd z z2) (fun z => by rw [so8] at z; exact absurd z z1)) n8 ⟨by
          subst hj1
          rw [Tm, Td_leaf hlo (by omega) hlf]
          exact ⟨rfl, by rw [so8, hy], pm8.1, f8, by rw [va8]; unfold nvq; rw [if_neg (by omega), if_neg (by omega)]⟩, pm8.2⟩⟩
    · -- a list
      have p7 := e7.pr.1
      have ex : x = -1 := by rw [hx]; exact hlo
      subst ex
      refine ⟨i32s (by omega) (by omega), w5.2.1, fun _ => ⟨w5.2.2.2, (s_MM_word1 (d := d + 3) w5.2.1 w5.1 (by omega)).mono (fun y M7 h7 => ?_)⟩, fun z => by omega⟩
      obtain ⟨e9, hy⟩ := h7
      subst e9
      rw [w5.2.2.1] at hy
      refine ⟨i32s (by omega) (by omega), w5.2.1, fun z => by omega, fun _ v hv => ⟨w5.2.2.2, ?_⟩⟩
      rw [if_neg (by omega)] at hv
      subst hv
      refine mk v i i _ (i32s (by omega) (by omega)) (by omega) (by omega) (fun M8 t8 je8 f8 n8 so8 _ pm8 => ⟨fun z => by omega, fun _ => ⟨fun z => by omega, fun _ => ⟨fun z => by omega, fun _ => ⟨fun _ => ⟨(wkx _ _ t8).2.2.2, ?_⟩, fun z => by omega⟩⟩⟩⟩)
      rw [show (i : Int) + 2 = ((i + 2 : Nat) : Int) by first | rfl | omega, show (j : Int) - 1 = ((j - 1 : Nat) : Int) by first | rfl | omega]
      refine (x_MM_list (d := d + 2) hw t8 (i32s (by omega) (by omega)) (by omega) (by omega) (by omega) e7).mono (fun Ma ha => ?_)
      obtain ⟨rs, f, ta, sa, jl, k4⟩ := ha
      exact ⟨ta.1.1, k_MM_part_267 ta.1.1 ⟨ta.1.1, kids rs M8 Ma jl.ne (fun i' j' z => ⟨by have := (jl.all i' j' z).2.2; omega, (jl.all i' j' z).1, by have := (jl.all i' j' z).2.1; omega⟩) (by omega) t8 je8 f8 n8 (by rw [so8]; exact Or.inr (Or.inr (Or.inr (by omega)))) ta sa pm8.2 (fun Mx Tx u1 u2 u3 u4 => by
        rw [Tm, Td_lst hlo hij h14]
        exact ⟨⟨by rw [u1, so8, hy], by rw [u2, pm8.1], u3⟩, tb_td jl u4⟩)⟩⟩
end MKX
section TQX
variable {G : mG} {d a N g T i j : Nat} {M : mM}
/-- a tree more -/
def trX (M : mM) (a g N T i j : Nat) (r : Int) (M' : mM) : Prop := Mv (trP a g) (fun _ => False) M a M' ∧ r = T ∧ ∃ T', nd M' g T' ∧ T < T' ∧ T' ≤ T + (j - i) ∧ To (nmw (wk M a) N) M' g 0 T T' ∧ np M' g T = -1 ∧ (Tm M M' a g 0 0 i j T T' ∧ ∀ n, n < T → pm M' g n = pm M g n) ∧ ∀ n, n < T → so M' g n = so M g n ∧ va M' g n = va M g n ∧ fp M' g n = fp M g n ∧ np M' g n = np M g n
theorem x_MM_tree (hO : mOk M) (h : Wx M a N) (hg : g = a + 13 ∨ g = a + 49) (hd : mR M a 10 = g) (hn : nd M g T) (he : Eo (wk M a) 6 i j) (hj : j < N) (hT : T + (j - i) ≤ 32000) : Ci G y_MM_tree (d + 6) [vr a, vi i, vi j] M (trX M a g N T i j) := by
  have w := h.1.1
  have hN := h.1.2.2
  have hij := he.pr.1
  have r18 : mR M a 18 = a + 91 := w.1.2.2.2.2.1.2.2.2.1
  refine k_MM_tree hO (i32s (by omega) (by omega)) (i32s (by omega) (by omega)) ?_
  rw [r18]
  refine ⟨w.1.1, (w.nu n91).1, fun M1 e1 => ?_⟩
  obtain ⟨m1, l1, -⟩ := mv_set hO w n91 (v := 0) (by omega) (w.nu n91).2.2.2.1.1 e1
  have w1 := m1.2.1
  have no : Hid _ := tL_no hg w
  have rt : mR M a 2 ≠ a + 91 := by rcases w.1.2.1 with y | y <;> rw [y.2] <;> omega
  have x1 : Wx M1 a N := h.mv m1 (fun q hq => by rw [hq]; exact n91) (by omega) (by omega) (by omega) rt
  have d1 : mR M1 a 10 = g := by rw [m1.rfl_a w (fun q hq => by rw [hq]; exact n91)]; exact hd
  have sm : ∀ q, tL g q → sameN M M1 q := fun q hq => m1.lst (tL_in hg hq) (fun z => by rw [z] at hq; exact no.2.2.2.2 hq)
  have n1 : nd M1 g T := fun q hq => by rw [(sm q hq).1]; exact hn q hq
  have gp := w1.gp hg
  have t1 : TI M a g N T [] M1 := ⟨m1.mono (fun q hq => Or.inr hq) (fun x hx => hx) (trP_lt hg w), x1, d1, n1, ⟨l1, fun i hi => by simp at hi⟩, hg⟩
  have s1 : sameT M M1 g := fun n => ⟨(sm _ (by first | exact tLk1 g | exact tLk3 g | exact tLk5 g | exact tLk7 g | exact tLk9 g | exact tLk11 g | omega)).2.1 n, (sm _ (by first | exact tLk1 g | exact tLk3 g | exact tLk5 g | exact tLk7 g | exact tLk9 g | exact tLk11 g | omega)).2.1 n, (sm _ (by first | exact tLk1 g | exact tLk3 g | exact tLk5 g | exact tLk7 g | exact tLk9 g | exact tLk11 g | omega)).2.1 n, (sm _ (by first | exact tLk1 g | exact tLk3 g | exact tLk5 g | exact tLk7 g | exact tLk9 g | exact tLk11 g | omega)).2.1 n⟩
  have lT : mI M1 (g + 1) 1 = T := n1 (g + 1) (tLk1 g)
  rw [d1, gp.2.1.1, lT]
  refine ⟨gp.1, (w1.nu (tL_in hg (by omega))).1, (x_MM_job (d := d + 4) t1 (by simp) (i32s (by omega) (by omega)) (i32s (by omega) (by omega)) (i32s (by omega) (by omega))).mono (fun M2 h2 => ?_)⟩
  obtain ⟨t2, s2⟩ := h2
  refine ⟨t2.1.1, tr_runx (d := d) w (i32s (by omega) (by omega)) (j - i) i j (Nat.le_refl _) he hj M2 T (-1) [] t2 (by omega) (by omega) (fun z => by omega) (by omega) (by simp; omega) (fun M3 T' t3 h1 h2 je to nn tm => ?_)⟩
  have w3 := t3.2.1.1.1
  have r3 : mR M3 a 18 = a + 91 := w3.1.2.2.2.2.1.2.2.2.1
  have l3 : mI M3 (a + 91) 1 = 0 := t3.2.2.2.2.1.1
  refine k_MM_tree_26 t3.1.1 (i32s (by omega) (by omega)) ?_
  rw [r3, l3]
  refine ⟨w3.1.1, (w3.nu n91).1, fun _ => ⟨t3.1, rfl, T', t3.2.2.2.1, h1, h2, to, nn, ⟨tm.1, fun n hn => by rw [tm.2 n hn, s2.2]; exact (sm (g + 3) (by first | exact tLk3 g | exact gLk3 g | omega)).2.1 n⟩, fun n hnT => ?_⟩, fun z => by omega⟩
  have s12 := sameT.trans s1 s2.1
  rcases je.2 with ⟨-, q⟩ | ⟨q, -⟩ | ⟨q, -⟩
  · exact ⟨(je.1 n hnT).1.trans (s12 n).1, (je.1 n hnT).2.trans (s12 n).2.1, (q n hnT).1.trans (s12 n).2.2.1, (q n hnT).2.trans (s12 n).2.2.2⟩
  · omega
  · omega
end TQX
end
section
/-! The reference's names, exactly: sameWord, find, lookUp, lookAt. -/
section NAX
variable {G : mG} {d a N g K : Nat} {M : mM}
/-- two words with the same letters -/
def smx (M : mM) (a x y : Nat) : Prop := nt M (a + 9) y - nt M (a + 7) y = nt M (a + 9) x - nt M (a + 7) x ∧ ∀ i : Nat, (i : Int) < nt M (a + 9) x - nt M (a + 7) x → nt M (mR M a 2) ((nt M (a + 7) x).toNat + i) = nt M (mR M a 2) ((nt M (a + 7) y).toNat + i)
/-- the last known name that is spelt like y; -1: none -/
def fdx (M : mM) (a K y : Nat) (r : Int) : Prop := (r = -1 ∧ ∀ k, k < K → ¬ smx M a (nt M (a + 85) k).toNat y) ∨ ∃ q : Nat, r = q ∧ q < K ∧ smx M a (nt M (a + 85) q).toNat y ∧ ∀ k, q < k → k < K → ¬ smx M a (nt M (a + 85) k).toNat y
theorem x_MM_sameWord {x y : Nat} (hO : mOk M) (h : Wx M a N) (hx : x < N) (hy : y < N) : Ci G y_MM_sameWord (d + 2) [vr a, vi x, vi y] M (fun r M' => M' = M ∧ (r = 0 ∨ r = 1) ∧ (r = 1 ↔ smx M a x y)) := by
  have h0 := h
  obtain ⟨⟨w, l, b⟩, l7, l9, wo, hT⟩ := h
  obtain ⟨-, ⟨x1, x2, x3⟩, -⟩ := wo x hx
  obtain ⟨-, ⟨y1, y2, y3⟩, -⟩ := wo y hy
  have hp := w.tape.2.1
  have at9 : ∀ {k : Nat} {Q : Int → mM → Prop}, k < N → (∀ z, z = nt M (a + 9) k → i32 z → Q z M) → Ci G y_MN_at (d + 1) [vr (a + 9), vi k] M Q := fun hk hQ => by
    refine (s_MN_at hO (w.nu n9) (by omega)).mono (fun z M1 e1 => ?_)
    obtain ⟨e1, hz⟩ := e1
    subst e1
    exact hQ z hz (by rw [hz]; exact (hO _ _).1)
  have pl : ∀ {k : Nat} {Q : Int → mM → Prop}, k < N → (∀ z, z = nt M (a + 7) k → i32 z → Q z M) → Ci G y_MM_place0 (d + 1) [vr a, vi k] M Q := fun hk hQ => by
    refine (s_MM_place0 (d := d) hO h0 hk).mono (fun z M1 e1 => ?_)
    obtain ⟨e1, hz⟩ := e1
    subst e1
    exact hQ z hz (by rw [hz]; exact (hO _ _).1)
  refine k_MM_sameWord hO (i32s (by omega) (by omega)) (i32s (by omega) (by omega)) ?_
  rw [w.1.2.2.1.2.2.1]
  refine ⟨w.1.1, (w.nu n9).1, at9 hx (fun z1 e1 i1 => ⟨i1, hO, w.1.1, pl hx (fun z2 e2 i2 => ⟨i2, hO, w.1.1, ?_⟩)⟩)⟩
  rw [w.1.2.2.1.2.2.1]
  refine ⟨(w.nu n9).1, at9 hy (fun z3 e3 i3 => ⟨i3, hO, w.1.1, pl hy (fun z4 e4 i4 => ⟨i4, hO, i32s (by omega) (by omega), i32s (by omega) (by omega), fun v hv => ?_⟩)⟩)⟩
  have hlen : v = 1 → z3 - z4 = z1 - z2 := fun q => by split at hv <;> omega
  suffices H : ∀ (c t : Nat) (u : Int), (t : Int) + c = z1 - z2 → (u = 0 ∨ u = 1) → (u = 1 → z3 - z4 = z1 - z2) → ((u = 1 ∧ ∀ i : Nat, i < t → nt M (mR M a 2) ((nt M (a + 7) x).toNat + i) = nt M (mR M a 2) ((nt M (a + 7) y).toNat + i)) ∨ (u = 0 ∧ ¬ smx M a x y)) → h_MM_sameWord_43 G (d + 1) a x y (z1 - z2) u t M (fun r M' => M' = M ∧ (r = 0 ∨ r = 1) ∧ (r = 1 ↔ smx M a x y)) from
    H (z1 - z2).toNat 0 v (by omega) (by split at hv <;> omega) hlen (by
      split at hv
      · exact Or.inl ⟨by omega, fun i hi => absurd hi (by omega)⟩
      · exact Or.inr ⟨by omega, fun q => by have := q.1; omega⟩)
  clear hv hlen
  intro c
  induction c with
  | zero =>
    intro t u ht hu hl iv
    exact k_MM_sameWord_43 hO (i32s (by omega) (by omega)) (i32s (by omega) (by omega)) (i32s (by omega) (by omega)) (i32s (by omega) (by omega)) (i32s (by omega) (by omega)) ⟨fun _ => ⟨hu, rfl, hu, by
      rcases iv with ⟨v1, v2⟩ | ⟨v1, v2⟩
      · exact ⟨fun _ => ⟨by have := hl v1; omega, fun i hi => v2 i (by omega)⟩, fun _ => v1⟩
      · exact ⟨fun q => by omega, fun q => absurd q v2⟩⟩, fun q => absurd (Or.inl (by omega)) q⟩
  | succ c ih =>
    intro t u ht hu hl iv
    refine k_MM_sameWord_43 hO (i32s (by omega) (by omega)) (i32s (by omega) (by omega)) (i32s (by omega) (by omega)) (i32s (by omega) (by omega)) (i32s (by omega) (by omega)) ⟨fun qq => ⟨hu, rfl, hu, by
      rcases iv with ⟨v1, v2⟩ | ⟨v1, v2⟩
      · omega
      · exact ⟨fun q => by omega, fun q => absurd q v2⟩⟩, fun q => ⟨w.1.1, pl hx (fun u1 f1 j1 => ⟨j1, hO, (w.nu hp).1, ?_⟩)⟩⟩
    have hu1 := hl (by omega)
    rw [show u1 + (t : Int) = (((u1 + (t : Int)).toNat : Nat) : Int) by first | rfl | omega]
    refine (s_MN_at hO (w.nu hp) (by omega)).mono (fun v1 M2 g2 => ?_)
    obtain ⟨g2, hv1⟩ := g2
    subst g2
    refine ⟨by rw [hv1]; exact (hO _ _).1, hO, w.1.1, pl hy (fun u2 f2 j2 => ⟨j2, hO, (w.nu hp).1, ?_⟩)⟩
    rw [show u2 + (t : Int) = (((u2 + (t : Int)).toNat : Nat) : Int) by first | rfl | omega]
    refine (s_MN_at hO (w.nu hp) (by omega)).mono (fun v2 M3 g3 => ?_)
    obtain ⟨g3, hv2⟩ := g3
    subst g3
    exact ⟨by rw [hv2]; exact (hO _ _).1, hO, fun v3 hv3 => ih (t + 1) v3 (by omega) (by split at hv3 <;> omega) (fun _ => hu1) (by
      obtain ⟨w1, w2⟩ : u = 1 ∧ ∀ i : Nat, i < t → nt M3 (mR M3 a 2) ((nt M3 (a + 7) x).toNat + i) = nt M3 (mR M3 a 2) ((nt M3 (a + 7) y).toNat + i) := by
        rcases iv with v | ⟨v1, -⟩
        · exact v
        · exact absurd (Or.inr v1) q
      have ex : (u1 + (t : Int)).toNat = (nt M3 (a + 7) x).toNat + t := by rw [f1]; omega
      have ey : (u2 + (t : Int)).toNat = (nt M3 (a + 7) y).toNat + t := by rw [f2]; omega
      rw [ex] at hv1
      rw [ey] at hv2
      split at hv3
      · rename_i qq
        refine Or.inl ⟨by omega, fun i hi => ?_⟩
        by_cases c : i < t
        · exact w2 i c
        · rw [show i = t by first | rfl | omega, ← hv1, ← hv2]; exact qq
      · rename_i qq
        exact Or.inr ⟨by omega, fun z => qq (by rw [hv1, hv2]; exact z.2 t (by omega))⟩)⟩
theorem x_MM_find {y : Nat} (hO : mOk M) (h : Wx M a N) (hn : Nm M a g N K) (hy : y < N) : Ci G y_MM_find (d + 3) [vr a, vi y] M (fun r M' => M' = M ∧ (-1 ≤ r ∧ r < K) ∧ fdx M a K y r) := by
  have w := h.1.1
  have hN := h.1.2.2
  obtain ⟨n1, n2, n3, n4, n5'⟩ := hn
  have r13 : mR M a 13 = a + 85 := w.1.2.2.2.2.1.1
  have l1 : mI M (a + 85) 1 = K := n1
  refine k_MM_find hO (i32s (by omega) (by omega)) ?_
  suffices H : ∀ (c k : Nat) (f : Int), k + c = K → -1 ≤ f → f < K → fdx M a k y f → h_MM_find_4 G (d + 2) a y f k M (fun r M' => M' = M ∧ (-1 ≤ r ∧ r < K) ∧ fdx M a K y r) from
    H K 0 (-1) (by omega) (by omega) (by omega) (Or.inl ⟨rfl, fun k hk => absurd hk (by omega)⟩)
  intro c
  induction c with
  | zero =>
    intro k f hk f0 f1 fd
    refine k_MM_find_4 hO (i32s (by omega) (by omega)) (i32s (by omega) (by omega)) (i32s (by omega) (by omega)) ?_
    rw [r13, l1]
    exact ⟨w.1.1, (w.nu n85).1, fun _ => ⟨rfl, ⟨f0, f1⟩, by rw [show K = k by first | rfl | omega]; exact fd⟩, fun q => by omega⟩
  | succ c ih =>
    intro k f hk f0 f1 fd
    obtain ⟨⟨a1, a2⟩, -⟩ := n5' k (by omega)
    refine k_MM_find_4 hO (i32s (by omega) (by omega)) (i32s (by omega) (by omega)) (i32s (by omega) (by omega)) ?_
    rw [r13, l1]
    refine ⟨w.1.1, (w.nu n85).1, fun q => by omega, fun _ => (s_MN_at hO (w.nu n85) (by omega)).mono (fun z M1 e1 => ?_)⟩
    obtain ⟨e1, hz⟩ := e1
    subst e1
    refine ⟨by rw [hz]; exact (hO _ _).1, hO, w.1.1, ?_⟩
    rw [show z = ((z.toNat : Nat) : Int) by first | rfl | omega]
    refine (x_MM_sameWord (d := d) hO h (by omega) hy).mono (fun r M2 e2 => ?_)
    obtain ⟨e2, hr, hs⟩ := e2
    subst e2
    exact ⟨i32s (by omega) (by omega), hO, fun v hv => ih (k + 1) v (by omega) (by split at hv <;> omega) (by split at hv <;> omega) (by
      rw [hz] at hs
      split at hv
      · rename_i r0
        have ns : ¬ smx M2 a (nt M2 (a + 85) k).toNat y := fun u => by have := hs.mpr u; omega
        rw [hv]
        rcases fd with ⟨d1, d2⟩ | ⟨q, d1, d2, d3, d4⟩
        · refine Or.inl ⟨d1, fun k' hk' => ?_⟩
          by_cases c : k' < k
          · exact d2 k' c
          · rw [show k' = k by first | rfl | omega]; exact ns
        · refine Or.inr ⟨q, d1, by omega, d3, fun k' h1 h2 => ?_⟩
          by_cases c : k' < k
          · exact d4 k' h1 c
          · rw [show k' = k by first | rfl | omega]; exact ns
      · exact Or.inr ⟨k, by omega, by omega, hs.mp (by omega), fun k' h1 h2 => absurd h1 (by omega)⟩)⟩
end NAX
section LKX
variable {G : mG} {d a N g T K : Nat} {M M2 : mM}
/-- what names stand for: E kinds (-1 unknown), rv how they are resolved -/
def URq (M : mM) (a g N K : Nat) (co : Int) (E rv : Nat → Int) : Prop := ∀ (y : Nat) (r : Int), y < N → wk M a y = 1 → fdx M a K y r → ((r = -1 ∨ (co ≠ 0 ∧ nt M (a + 87) r.toNat ≠ 1)) → E y = -1) ∧ (¬ (r = -1 ∨ (co ≠ 0 ∧ nt M (a + 87) r.toNat ≠ 1)) → rv y = (if nt M (a + 87) r.toNat = 3 then 100 + nt M (a + 89) r.toNat else nt M (a + 89) r.toNat) ∧ E y = tn M g (rv y))
theorem LO.pm (w : Wd M a) (h : LO M a g N T K M2) (n : Nat) : pm M2 g n = pm M g n := by
  have hg := h.2.1.2.2.2.2.2.1
  exact (h.1.lst (tL_in hg (by omega)) (by omega)).2.1 n
/-- what a look leaves alone -/
theorem LO.txt (w : Wd M a) (h : LO M a g N T K M2) : (∀ k, nt M2 (a + 7) k = nt M (a + 7) k) ∧ (∀ k, nt M2 (a + 9) k = nt M (a + 9) k) ∧ (∀ k, nt M2 (mR M2 a 2) k = nt M (mR M a 2) k) ∧ (∀ k, nt M2 (a + 85) k = nt M (a + 85) k) ∧ (∀ k, nt M2 (a + 87) k = nt M (a + 87) k) ∧ (∀ k, nt M2 (a + 89) k = nt M (a + 89) k) ∧ wk M2 a = wk M a := by
  have hg := h.2.1.2.2.2.2.2.1
  have no := lkP_no hg w
  have r := h.1.rfl_a w (fun q hq => lkP_in hg hq)
  exact ⟨fun k => (h.1.lst n7 no.2.1).2.1 k, fun k => (h.1.lst n9 no.2.2.1).2.1 k, fun k => by rw [r]; exact (h.1.lst w.tape.2.1 no.2.2.2.1).2.1 k, fun k => (h.1.lst n85 no.2.2.2.2.1).2.1 k, fun k => (h.1.lst n87 no.2.2.2.2.2.1).2.1 k, fun k => (h.1.lst n89 no.2.2.2.2.2.2).2.1 k, funext (fun k => (h.1.lst n5 no.1).2.1 k)⟩
theorem LO.fd {y : Nat} {r : Int} (w : Wd M a) (h : LO M a g N T K M2) (k : fdx M2 a K y r) : fdx M a K y r := by
  obtain ⟨k1, k2, k3, k4, -⟩ := h.txt w
  have sm : ∀ x y, smx M2 a x y = smx M a x y := fun x y => by
    unfold smx
    simp only [k1, k2, k3]
  unfold fdx at k ⊢
  simp only [sm, k4] at k
  exact k
/-- looking up ends -/
def luX (co : Int) (M M2 : mM) (a g N T K n : Nat) (E rv : Nat → Int) (r : Int) (M3 : mM) : Prop := LO M a g N T K M3 ∧ (r = 0 ∨ r = 1) ∧ sameN M2 M3 (a + 93) ∧ sameN M2 M3 (a + 95) ∧ ((mI M3 a 16 = 2 ∧ (mI M3 a 17 = pm M g n ∧ E (va M2 g n).toNat = -1) ∧ ∀ k, va M3 g k = va M2 g k) ∨ (mI M3 a 16 = mI M2 a 16 ∧ (nmr co M g (va M3 g n) ∧ r = tn M g (va M3 g n) ∧ (va M3 g n = rv (va M2 g n).toNat ∧ E (va M2 g n).toNat = r)) ∧ ∀ k, k ≠ n → va M3 g k = va M2 g k))
theorem x_MM_lookUp {n : Nat} {co : Int} {E rv : Nat → Int} (hU : URq M a g N K co E rv) (hco : i32 co) (hw0 : Wd M a) (h : LO M a g N T K M2) (hn : n < T) (hv : 0 ≤ va M2 g n ∧ va M2 g n < N) (hw1 : wk M a (va M2 g n).toNat = 1) : Ci G y_MM_lookUp (d + 4) [vr a, vi n, vi co] M2 (luX co M M2 a g N T K n E rv) := by
  obtain ⟨hO, hx, hnm, hd, h10, hg, hb, hT⟩ := id h.2.1
  have w := hx.1.1
  have gp := w.gp hg
  obtain ⟨n1, n2, n3, n4, n5'⟩ := id hnm
  have r3 : mR M2 g 3 = g + 7 := gp.2.1.2.2.2.1
  have r1 : mR M2 g 1 = g + 3 := gp.2.1.2.1
  have r14 : mR M2 a 14 = a + 87 := w.1.2.2.2.2.1.2.1
  have r15 : mR M2 a 15 = a + 89 := w.1.2.2.2.2.1.2.2.1
  have u7 := w.nu (tL_in (a := a) (q := g + 7) hg (tLk7 g))
  have u3 := w.nu (tL_in (a := a) (q := g + 3) hg (tLk3 g))
  have l7 := hd (g + 7) (by first | exact tLk7 g | exact gLk7 g | omega)
  have l3 := hd (g + 3) (by first | exact tLk3 g | exact gLk3 g | omega)
  have c7 : (T : Int) ≤ cp M2 (g + 7) := by rw [← l7]; exact u7.2.2.2.1.2
  have gI := h.2.2.2.2
  -- a list is read
  have rd : ∀ {p k : Nat} {Q : Int → mM → Prop}, p ∈ nums a → (k : Int) < ln M2 p → (∀ z, z = nt M2 p k → i32 z → Q z M2) → Ci G y_MN_at (d + 3) [vr p, vi k] M2 Q := fun hp hk hQ => by
    refine (s_MN_at hO (w.nu hp) hk).mono (fun z M1 e1 => ?_)
    obtain ⟨e1, hz⟩ := e1
    subst e1
    exact hQ z hz (by rw [hz]; exact (hO _ _).1)
  -- the fault is told
  have flt : ∀ (y : Int), i32 y → y = pm M2 g n → E (va M2 g n).toNat = -1 → Cv G y_MM_stop (d + 3) [vr a, vi 2, vi y] M2 (fun M4 => mOk M4 ∧ luX co M M2 a g N T K n E rv 0 M4) := fun y hy yp yE => by
    refine (s_MM_stop (i32s (by omega) (by omega)) hy hO w).mono (fun M4 h4 => ?_)
    obtain ⟨m4, f1, f2, f3⟩ := h4
    have s7 := m4.lst (tL_in (a := a) (q := g + 7) hg (tLk7 g)) (fun z => z)
    exact ⟨m4.1, h.step m4 (fun q hq => hq.elim) (fun x hx => hx) s7.1 f3, Or.inl rfl, m4.lst n93 (fun z => z), m4.lst n95 (fun z => z), Or.inl ⟨f1, ⟨by rw [f2, yp]; exact h.pm hw0 n, yE⟩, fun k => s7.2.1 k⟩⟩
  refine k_MM_lookUp hO (i32s (by omega) (by omega)) hco ?_
  rw [h10, r3]
  refine ⟨w.1.1, gp.1, u7.1, rd (tL_in hg (by omega)) (by omega) (fun x1 e1 i1 => ⟨i1, hO, w.1.1, ?_⟩)⟩
  have e1' : x1 = va M2 g n := e1
  rw [show x1 = ((x1.toNat : Nat) : Int) by first | rfl | omega]
  refine (x_MM_find (d := d) hO hx hnm (by omega)).mono (fun k M3 h3 => ?_)
  obtain ⟨e3, ⟨k0, k1⟩, kf⟩ := h3
  subst e3
  obtain ⟨x1', x2', x3', x4', x5', x6', x7'⟩ := h.txt hw0
  have hUn := fun (_ : Unit) => hU x1.toNat k (by omega) (by rw [e1']; exact hw1) (h.fd hw0 kf)
  have fault : E (va M3 g n).toNat = -1 → Ci G y_MN_at (d + 3) [vr (g + 3), vi n] M3 (fun x18 M17 => i32 x18 ∧ mOk M17 ∧ (mK M17 a = 14 ∧ Cv G y_MM_stop (d + 3) [vr a, vi 2, vi x18] M17 (fun M21 => mOk M21 ∧ luX co M M3 a g N T K n E rv 0 M21))) := fun eE => rd (tL_in hg (by omega)) (by omega) (fun y ey iy => ⟨iy, hO, w.1.1, flt y iy ey eE⟩)
  -- the name's place among the known ones
  have good : ∀ (kk : Nat) (x : Int), kk < K → x = nt M3 (a + 89) kk → i32 x → (co ≠ 0 → nt M3 (a + 87) kk = 1) → (rv (va M3 g n).toNat = (if nt M3 (a + 87) kk = 3 then 100 + x else x) ∧ E (va M3 g n).toNat = tn M g (rv (va M3 g n).toNat)) → (mK M3 g = 16 ∧ mK M3 (g + 7) = 15 ∧ mK M3 (a + 87) = 15 ∧ Ci G y_MN_at (d + 3) [vr (a + 87), vi kk] M3 (fun x36 M35 => i32 x36 ∧ mOk M35 ∧ (∀ v39 : Int, v39 = (if (x36 = 3) then 100 + x else x) → mK M35 (mR M3 (g + 7) 0) = 30 ∧ ((0 : Int) ≤ n ∧ (n : Int) < (mN M35 (mR M3 (g + 7) 0) : Int)) ∧ i32 v39 ∧ ∀ M45, M45 = mUI M35 (mR M3 (g + 7) 0) (Int.toNat n) v39 → mK M45 a = 14 ∧ mK M45 (mR M45 a 14) = 15 ∧ Ci G y_MN_at (d + 3) [vr (mR M45 a 14), vi kk] M45 (fun x50 M49 => i32 x50 ∧ mOk M49 ∧ ((((x50 = 3) → (mK M49 a = 14 ∧ mK M49 (mR M49 a 10) = 16 ∧ mK M49 (mR M49 (mR M49 a 10) 13) = 31 ∧ ((0 : Int) ≤ x ∧ x < (mN M49 (mR M49 (mR M49 a 10) 13) : Int)))) ∧ (¬ (x50 = 3) → (mK M49 a = 14 ∧ mK M49 (mR M49 a 10) = 16 ∧ mK M49 (mR M49 (mR M49 a 10) 8) = 31 ∧ ((0 : Int) ≤ x ∧ x < (mN M49 (mR M49 (mR M49 a 10) 8) : Int))))) ∧ ∀ v61 : Int, v61 = (if (x50 = 3) then mI M49 (mR M49 (mR M49 a 10) 13) (Int.toNat x) else mI M49 (mR M49 (mR M49 a 10) 8) (Int.toNat x)) → i32 v61 ∧ ∀ v66 : Int, v66 = (if (v61 = 0) then 0 else 1) → luX co M M3 a g N T K n E rv v66 M49))))) := fun kk x hkk ex ix hc1 hrv => by
    obtain ⟨-, hk, hk1⟩ := n5' kk hkk
    rw [← ex] at hk hk1
    refine ⟨gp.1, u7.1, (w.nu n87).1, rd n87 (by omega) (fun s es is => ⟨is, hO, fun v hv => ⟨u7.2.1, ⟨by omega, by have : mN M3 (mR M3 (g + 7) 0) = cp M3 (g + 7) := rfl; omega⟩, i32s (by split at hv <;> omega) (by split at hv <;> omega), fun M4 e4 => ?_⟩⟩)⟩
    rw [← es] at hk hc1 hk1 hrv
    rw [Int.toNat_natCast] at e4
    obtain ⟨m4, l4, k4, -⟩ := mv_el (v := v) (i32s (by split at hv <;> omega) (by split at hv <;> omega)) hO w (tL_in (a := a) (q := g + 7) hg (tLk7 g)) e4
    have w4 := m4.2.1
    have f4 := (m4.fld w (fun q hq => by rw [hq]; exact tL_in hg (by omega)) (fun hq => hq)).1
    have L4 : LO M a g N T K M4 := h.step m4 (fun q hq => Or.inr (Or.inr hq)) (fun x hx => hx.elim) l4 (fun i _ _ => by rw [f4])
    have s87 := m4.lst (n87 (a := a)) (by omega)
    have gp4 := w4.gp hg
    have d4 : mR M4 a 10 = g := L4.2.1.2.2.2.2.1
    have r144 : mR M4 a 14 = a + 87 := w4.1.2.2.2.2.1.2.1
    rw [r144]
    refine ⟨w4.1.1, (w4.nu n87).1, (s_MN_at m4.1 (w4.nu n87) (by rw [s87.1]; omega)).mono (fun s' M5 e5 => ?_)⟩
    obtain ⟨e5, hs'⟩ := e5
    subst e5
    rw [s87.2.1, ← es] at hs'
    subst hs'
    rw [d4, gp4.2.2.1.1, gp4.2.1.2.2.2.2.2.2.2.1, gp4.2.2.2.2.1.1.2, gp4.2.2.2.1.2.1.2]
    refine ⟨is, m4.1, ⟨fun q => ⟨w4.1.1, gp4.1, gp4.2.2.2.2.1.1.1, by omega⟩, fun q => ⟨w4.1.1, gp4.1, gp4.2.2.2.1.2.1.1, by omega⟩⟩, fun u hu => ⟨by rw [hu]; split <;> exact (m4.1 _ _).1, fun z hz => ⟨L4, by split at hz <;> omega, m4.lst n93 (by omega), m4.lst n95 (by omega), Or.inr ⟨by rw [f4], ?_, fun k hk => by show nt M5 (g + 7) k = _; rw [k4 k, if_neg hk]⟩⟩⟩⟩
    show nmr co M g (nt M5 (g + 7) n) ∧ z = tn M g (nt M5 (g + 7) n) ∧ (nt M5 (g + 7) n = _ ∧ _)
    rw [k4 n, if_pos rfl]
    have zt : z = tn M g v := by
      obtain ⟨y1, y2⟩ := L4.tn hw0
      rw [hz, hu, y1, y2]
      unfold tn
      by_cases c3 : s' = 3
      · rw [if_pos c3] at hv
        rw [if_pos c3, hv, if_pos (show (100 : Int) ≤ 100 + x by omega), show (100 + x - 100).toNat = x.toNat by first | rfl | omega]
      · rw [if_neg c3] at hv
        rw [if_neg c3, hv, if_neg (show ¬ (100 : Int) ≤ x by omega)]
    refine ⟨?_, zt, by rw [hv, hrv.1], by rw [hrv.2, hrv.1, ← hv]; exact zt.symm⟩
    · unfold nmr
      rw [← gI]
      have f13 := h.fm hw0
      rw [← f13]
      by_cases c3 : s' = 3
      · rw [if_pos c3] at hv
        refine Or.inr ⟨?_, by omega, by omega, by omega⟩
        by_cases z0 : co = 0
        · exact z0
        · have := hc1 z0
          omega
      · rw [if_neg c3] at hv
        refine Or.inl ⟨by omega, by omega, by omega, fun z0 => ?_⟩
        rw [hv]
        exact hk1 (hc1 z0)
  refine ⟨i32s (by omega) (by omega), hO, fun q => ?_, fun q => ⟨fun q2 => ?_, fun q2 => ?_⟩⟩
  · rw [h10, r1]
    exact ⟨w.1.1, gp.1, u3.1, fault (by rw [← e1']; exact (hUn ()).1 (Or.inl (by omega)))⟩
  · rw [r15, show k = ((k.toNat : Nat) : Int) by first | rfl | omega]
    refine ⟨w.1.1, (w.nu n89).1, rd n89 (by omega) (fun x ex ix => ⟨ix, hO, w.1.1, ?_⟩)⟩
    rw [h10, r3, r14]
    exact good k.toNat x (by omega) ex ix (fun z => absurd q2 z) (by
      obtain ⟨u1, u2⟩ := (hUn ()).2 (by omega)
      rw [← e1', u2, u1, ex, x5', x6']
      exact ⟨rfl, rfl⟩)
  · rw [r14, show k = ((k.toNat : Nat) : Int) by first | rfl | omega]
    refine ⟨w.1.1, (w.nu n87).1, rd n87 (by omega) (fun s es is => ⟨is, hO, fun q3 => ?_, fun q3 => ?_⟩)⟩
    · rw [r15]
      refine ⟨w.1.1, (w.nu n89).1, rd n89 (by omega) (fun x ex ix => ⟨ix, hO, w.1.1, ?_⟩)⟩
      rw [h10, r3, r14]
      exact good k.toNat x (by omega) ex ix (fun _ => es.symm.trans q3) (by
        have s1 : nt M (a + 87) k.toNat = 1 := by rw [← x5']; exact es.symm.trans q3
        obtain ⟨u1, u2⟩ := (hUn ()).2 (by omega)
        rw [← e1', u2, u1, ex, x5', x6']
        exact ⟨rfl, rfl⟩)
    · rw [h10, r1]
      exact ⟨w.1.1, gp.1, u3.1, fault (by
        rw [← e1']
        refine (hUn ()).1 (Or.inr ⟨q2, ?_⟩)
        rw [← x5']
        exact fun u => q3 (es.trans u))⟩
end LKX
end
section
/-! The reference's look at a node, exactly. -/
section LAX
variable {G : mG} {d a N g T K n L : Nat} {M M2 M4 : mM}
/-- the parts' types fit the node -/
def gdt (s : Int) (k : Nat) (u : Nat → Int) : Prop := if s = 29 ∨ s = 30 ∨ s = 31 then ∀ j, j < k → u j = 1 else if s = 18 ∨ s = 23 then u 0 = u 1 else if s = 32 then u 0 = 1 ∧ u 1 = u 2 else ∀ j, j < k → u j = 0
/-- the node's own type -/
def tyt (s : Int) (u : Nat → Int) : Int := if s = 29 ∨ s = 30 ∨ s = 31 ∨ s = 18 ∨ s = 23 then 1 else if s = 32 then u 2 else if 19 ≤ s ∧ s ≤ 22 then 1 else 0
/-- a fault, or what becomes of the names -/
def laF (co : Int) (M M2 : mM) (a g n k : Nat) (u E rv : Nat → Int) (t : Int) (M3 : mM) : Prop := (mI M3 a 16 = 2 ∧ mI M3 a 17 = pm M g n ∧ so M2 g n = 1 ∧ E (va M2 g n).toNat = -1) ∨ (mI M3 a 16 = 3 ∧ mI M3 a 17 = pm M g n ∧ (so M2 g n ≠ 1 ∧ so M2 g n ≠ 2 ∧ so M2 g n ≠ 12 ∧ so M2 g n ≠ 13) ∧ ¬ gdt (so M2 g n) k u) ∨ (laE co M M2 a g n k u t M3 ∧ mI M3 a 16 = mI M2 a 16 ∧ (so M2 g n = 1 → va M3 g n = rv (va M2 g n).toNat ∧ E (va M2 g n).toNat = t ∧ t ≠ -1) ∧ ((so M2 g n ≠ 1 ∧ so M2 g n ≠ 2 ∧ so M2 g n ≠ 12 ∧ so M2 g n ≠ 13) → gdt (so M2 g n) k u ∧ t = tyt (so M2 g n) u))
def laX (co : Int) (M M2 : mM) (a g N T K n L k : Nat) (u E rv : Nat → Int) (M5 : mM) : Prop := LO M a g N T K M5 ∧ sameN M2 M5 (a + 95) ∧ ln M5 (a + 93) = (L + 1 : Nat) ∧ (∀ j, j < L → nt M5 (a + 93) j = nt M2 (a + 93) j) ∧ (nt M5 (a + 93) L = 0 ∨ nt M5 (a + 93) L = 1) ∧ laF co M M2 a g n k u E rv (nt M5 (a + 93) L) M5
theorem la386x {co : Int} {k : Nat} {u E rv : Nat → Int} {x : Int} (hx : x = 0 ∨ x = 1) (h : LO M a g N T K M4) (s93 : sameN M2 M4 (a + 93)) (s95 : sameN M2 M4 (a + 95)) (e : laF co M M2 a g n k u E rv x M4) (hL : ln M2 (a + 93) = (L + k : Nat)) (hb : L + k ≤ 65000) : h_MM_lookAt_386 G d a L x M4 (laX co M M2 a g N T K n L k u E rv) := by
  obtain ⟨hO, hw, -, -, -, hg, -, -⟩ := id h.2.1
  have w := hw.1.1
  have r19 : ∀ {M3 : mM}, Wd M3 a → mR M3 a 19 = a + 93 := fun w => w.1.2.2.2.2.1.2.2.2.2.1
  refine k_MM_lookAt_386 hO (i32s (by omega) (by omega)) (i32s (by omega) (by omega)) ?_
  rw [r19 w]
  refine ⟨w.1.1, (w.nu n93).1, fun M5 e5 => ?_⟩
  obtain ⟨m5, l5, t5, -⟩ := mv_set hO w n93 (v := (L : Int)) (by omega) (by rw [s93.1, hL]; omega) e5
  have w5 := m5.2.1
  have g7 : g + 7 ∈ nums a := tL_in hg (by omega)
  have f5 := (m5.fld w (fun q hq => by rw [hq]; exact n93) (fun hq => hq)).1
  have L5 : LO M a g N T K M5 := h.step m5 (fun q hq => Or.inl hq) (fun x hx => hx.elim) (m5.lst g7 (by omega)).1 (fun i _ _ => by rw [f5])
  rw [r19 w5]
  refine ⟨(w5.nu n93).1, (s_MN_addB (B := 65536) (i32s (by omega) (by omega)) m5.1 (w5.nu n93) (by rw [l5]; omega) (by decide)).mono (fun M6 t6 => ?_)⟩
  have m6 := mv_addB w5 n93 (Or.inr (Or.inl rfl)) t6
  have f6 := (m6.fld w5 (fun q hq => by rw [hq]; exact n93) (fun hq => hq)).1
  have L6 : LO M a g N T K M6 := L5.step m6 (fun q hq => Or.inl hq) (fun x hx => hx.elim) (m6.lst g7 (by omega)).1 (fun i _ _ => by rw [f6])
  obtain ⟨-, -, -, t1, t2, t3, -⟩ := t6
  rw [l5] at t1 t2 t3
  rw [Int.toNat_natCast] at t3
  have v6 : ∀ k, va M6 g k = va M4 g k := fun k => ((m6.lst g7 (by omega)).2.1 k).trans ((m5.lst g7 (by omega)).2.1 k)
  refine ⟨m6.1, L6, ?_, by rw [t1]; omega, fun j hj => by rw [t2 j (by omega), t5, s93.2.1], by rw [t3]; exact hx, ?_⟩
  · exact sameN.trans s95 (sameN.trans (m5.lst n95 (by omega)) (m6.lst n95 (by omega)))
  · unfold laF laE at e ⊢
    rw [f6, f5, t3]
    simp only [v6]
    exact e
theorem su_all1 {u : Nat → Int} : ∀ {k : Nat}, (∀ j, j < k → u j = 1) → su u k = k
  | 0, _ => rfl
  | k + 1, h => by rw [su, su_all1 (fun j hj => h j (by omega)), h k (by omega)]; omega
theorem su_all0 {u : Nat → Int} : ∀ {k : Nat}, (∀ j, j < k → u j = 0) → su u k = 0
  | 0, _ => rfl
  | k + 1, h => by rw [su, su_all0 (fun j hj => h j (by omega)), h k (by omega)]; rfl
theorem x_MM_lookAt {nm : Int → Prop} {k : Nat} {u E rv : Nat → Int} {co : Int} (hU : URq M a g N K co E rv) (hco : i32 co) (hw0 : Wd M a) (h : LO M a g N T K M2) (hn : n < T) (hk : pks nm M2 g T n k) (hv : so M2 g n = 1 → (0 ≤ va M2 g n ∧ va M2 g n < N) ∧ wk M a (va M2 g n).toNat = 1) (hL : ln M2 (a + 93) = (L + k : Nat)) (hb : L + k ≤ 65000) (hu : ∀ j, j < k → nt M2 (a + 93) (L + j) = u j) (h01 : ∀ j, j < k → u j = 0 ∨ u j = 1) : Cv G y_MM_lookAt (d + 5) [vr a, vi n, vi co] M2 (fun M5 => mOk M5 ∧ laX co M M2 a g N T K n L k u E rv M5) := by
  refine Cv.mono (Q := laX co M M2 a g N T K n L k u E rv) ?_ (fun M5 h5 => ⟨h5.1.2.1.1, h5⟩)
  obtain ⟨hO, hx, -, hd, h10, hg, -, hT⟩ := id h.2.1
  have w := hx.1.1
  have gp := w.gp hg
  have r0 : mR M2 g 0 = g + 1 := gp.2.1.1
  have r1 : mR M2 g 1 = g + 3 := gp.2.1.2.1
  have r19 : mR M2 a 19 = a + 93 := w.1.2.2.2.2.1.2.2.2.2.1
  have u1 := w.nu (tL_in (a := a) (q := g + 1) hg (tLk1 g))
  have u3 := w.nu (tL_in (a := a) (q := g + 3) hg (tLk3 g))
  have l1 := hd (g + 1) (by first | exact tLk1 g | exact gLk1 g | omega)
  have l3 := hd (g + 3) (by first | exact tLk3 g | exact gLk3 g | omega)
  have l93 : mI M2 (a + 93) 1 = (L + k : Nat) := hL
  have rd : ∀ {p j : Nat} {Q : Int → mM → Prop}, p ∈ nums a → (j : Int) < ln M2 p → (∀ z, z = nt M2 p j → i32 z → Q z M2) → Ci G y_MN_at (d + 4) [vr p, vi j] M2 Q := fun hp hk hQ => by
    refine (s_MN_at hO (w.nu hp) hk).mono (fun z M1 e1 => ?_)
    obtain ⟨e1, hz⟩ := e1
    subst e1
    exact hQ z hz (by rw [hz]; exact (hO _ _).1)
  have ok : ∀ (x : Int), (x = 0 ∨ x = 1) → so M2 g n ≠ 1 → tyn (tn M g) (so M2 g n) (va M2 g n) k u x → ((so M2 g n ≠ 1 ∧ so M2 g n ≠ 2 ∧ so M2 g n ≠ 12 ∧ so M2 g n ≠ 13) → gdt (so M2 g n) k u ∧ x = tyt (so M2 g n) u) → h_MM_lookAt_386 G (d + 4) a L x M2 (laX co M M2 a g N T K n L k u E rv) := fun x hx hs ht hgd => la386x hx h sameN.refl sameN.refl (Or.inr (Or.inr ⟨Or.inr ⟨rfl, fun z => absurd z hs, fun _ _ => rfl, ht⟩, rfl, fun z => absurd z hs, hgd⟩)) hL hb
  have flt : ∀ (p x : Int), i32 p → (x = 0 ∨ x = 1) → p = pm M2 g n → (so M2 g n ≠ 1 ∧ so M2 g n ≠ 2 ∧ so M2 g n ≠ 12 ∧ so M2 g n ≠ 13) → ¬ gdt (so M2 g n) k u → Cv G y_MM_stop (d + 4) [vr a, vi 3, vi p] M2 (fun M4 => mOk M4 ∧ h_MM_lookAt_386 G (d + 4) a L x M4 (laX co M M2 a g N T K n L k u E rv)) := fun p x hp hx pp ps pg => by
    refine (s_MM_stop (i32s (by omega) (by omega)) hp hO w).mono (fun M4 h4 => ?_)
    obtain ⟨m4, f1, f2, f3⟩ := h4
    have s7 := m4.lst (tL_in (a := a) (q := g + 7) hg (tLk7 g)) (fun z => z)
    exact ⟨m4.1, la386x hx (h.step m4 (fun q hq => hq.elim) (fun x hx => hx) s7.1 f3) (m4.lst n93 (fun z => z)) (m4.lst n95 (fun z => z)) (Or.inr (Or.inl ⟨f1, by rw [f2, pp]; exact h.pm hw0 n, ps, pg⟩)) hL hb⟩
  refine k_MM_lookAt hO (i32s (by omega) (by omega)) hco ?_
  rw [h10, r0]
  refine ⟨w.1.1, gp.1, u1.1, rd (tL_in hg (by omega)) (by omega) (fun s es is => ⟨is, hO, w.1.1, ?_⟩)⟩
  rw [h10, r1]
  refine ⟨gp.1, u3.1, rd (tL_in hg (by omega)) (by omega) (fun p ep ip => ⟨ip, hO, w.1.1, (s_MM_parts (d := d + 3) h hn hk).mono (fun r M3 e3 => ?_)⟩)⟩
  obtain ⟨e3, hr⟩ := e3
  subst e3
  subst hr
  have es' : s = so M3 g n := es
  rw [← es'] at hv ok flt
  have hkb : k ≤ 30000 := by rcases hk with q | q <;> omega
  rw [r19, l93, show ((L + k : Nat) : Int) - (k : Int) = (L : Int) by first | rfl | omega]
  refine ⟨i32s (by omega) (by omega), hO, w.1.1, (w.nu n93).1, ?_⟩
  suffices H : ∀ (c j : Nat), c + j = k → h_MM_lookAt_51 G (d + 4) a n co s p k L (su u j) (L + j : Nat) M3 (laX co M M3 a g N T K n L k u E rv) by
    have := H k 0 (by omega)
    rw [show L + 0 = L by first | rfl | omega] at this
    exact this
  intro c
  induction c with
  | succ c ih =>
    intro j hj
    have sb := su_b (k := j) (fun i hi => h01 i (by omega))
    refine k_MM_lookAt_51 hO (i32s (by omega) (by omega)) hco is ip (i32s (by omega) (by omega)) (i32s (by omega) (by omega)) (i32s (by omega) (by omega)) ⟨by omega, by omega⟩ ?_
    rw [r19, l93]
    refine ⟨w.1.1, (w.nu n93).1, fun q => by omega, fun _ => rd n93 (by rw [hL]; omega) (fun z hz iz => ⟨iz, hO, ?_⟩)⟩
    rw [hu j (by omega)] at hz
    have := ih (j + 1) (by omega)
    rw [show ((L + (j + 1) : Nat) : Int) = ((L + j : Nat) : Int) + 1 by first | rfl | omega, su, ← hz] at this
    exact this
  | zero =>
    intro j hj
    have hjk : j = k := by omega
    subst hjk
    obtain ⟨sb1, sb2, sb3, sb4⟩ := su_b (k := j) h01
    have ny : ∀ {t : Int}, s ≠ 1 → s ≠ 2 → ¬ (s = 12 ∨ s = 13) → tyr s j u t → tyn (tn M g) s (va M3 g n) j u t := fun y1 y2 y3 y4 => by
      unfold tyn
      rw [if_neg y1, if_neg y2, if_neg y3]
      exact y4
    have hk2 : s = 18 ∨ s = 23 → j = 2 := fun y => by
      rcases hk with ⟨-, -, z⟩ | ⟨-, -, z, -⟩
      · omega
      · unfold ari at z; omega
    refine k_MM_lookAt_51 hO (i32s (by omega) (by omega)) hco is ip (i32s (by omega) (by omega)) (i32s (by omega) (by omega)) (i32s (by omega) (by omega)) ⟨by omega, by omega⟩ ?_
    rw [r19, l93]
    have ep' : p = pm M3 g n := ep
    refine ⟨w.1.1, (w.nu n93).1, fun _ => ⟨fun q1 => ?_, fun q1 => ⟨fun q2 => ⟨fun z => absurd z (by decide), fun _ => ok 0 (Or.inl rfl) q1 (by unfold tyn; rw [if_neg q1, if_pos q2]) (fun z => absurd q2 z.2.1)⟩, fun q2 => ⟨fun q3 => ⟨fun z => absurd z (by decide), fun _ => ok 1 (Or.inr rfl) q1 (by unfold tyn; rw [if_neg q1, if_neg q2, if_pos q3]) (fun z => absurd q3 (by omega))⟩, fun q3 => ⟨fun q4 v hv => ⟨fun z => flt p 1 ip (Or.inr rfl) ep' ⟨q1, q2, by omega, by omega⟩ ?_, fun z => ok 1 (Or.inr rfl) q1 (ny q1 q2 q3 ?_) (fun _ => ?_)⟩, fun q4 => ⟨fun q5 v hv => ⟨fun z => flt p 1 ip (Or.inr rfl) ep' ⟨q1, q2, by omega, by omega⟩ ?_, fun z => ok 1 (Or.inr rfl) q1 (ny q1 q2 q3 ?_) (fun _ => ?_)⟩, fun q5 => ⟨fun q6 => ?_, fun q6 v hv => k_MM_isComparison hO is (fun v7 h7 => ⟨i32s (by split at h7 <;> omega) (by split at h7 <;> omega), hO, fun x hx => ⟨fun z => ⟨w.1.1, flt p x ip (by split at hx <;> omega) ep' ⟨q1, q2, by omega, by omega⟩ ?_⟩, fun z => ok x (by split at hx <;> omega) q1 (ny q1 q2 q3 ?_) (fun _ => ?_)⟩⟩)⟩⟩⟩⟩⟩⟩, fun q => absurd (Int.le_refl _) q⟩
    · refine (x_MM_lookUp (d := d) hU hco hw0 h hn (hv q1).1 (hv q1).2).mono (fun x M4 h4 => ?_)
      obtain ⟨h4, x01, t93, t95, t⟩ := h4
      refine ⟨i32s (by omega) (by omega), h4.2.1.1, fun z => absurd z (by decide), fun _ => la386x x01 h4 t93 t95 ?_ hL hb⟩
      rcases t with ⟨t, ⟨t5, t6⟩, -⟩ | ⟨t1, ⟨t2, t4, t7, t8⟩, t3⟩
      · exact Or.inl ⟨t, t5, es'.symm.trans q1, t6⟩
      · refine Or.inr (Or.inr ⟨Or.inr ⟨t1, fun _ => t2, fun i hi => t3 i (by rcases hi with z | z; exact z; exact absurd (es'.symm.trans q1) z), ?_⟩, t1, fun _ => ⟨t7, t8, by omega⟩, fun z => absurd (es'.symm.trans q1) z.1⟩)
        unfold tyn
        rw [← es', if_pos q1]
        exact t4
    · -- the same: bad
      have j2 := hk2 q4
      have sm1 : su u j = 1 := by
        by_cases y : su u j = 1
        · exact y
        · rw [if_neg y] at hv; rw [hv] at z; exact absurd z (by decide)
      subst j2
      have : su u 2 = 0 + u 0 + u 1 := rfl
      unfold gdt
      rw [if_neg (by omega), if_pos q4]
      omega
    · have j2 := hk2 q4
      have sm1 : su u j ≠ 1 := fun y => by rw [if_pos y] at hv; exact z hv
      subst j2
      have u0 := h01 0 (by omega)
      have u1 := h01 1 (by omega)
      have : su u 2 = 0 + u 0 + u 1 := rfl
      unfold tyr
      rw [if_neg (by omega), if_pos q4]
      exact ⟨by omega, rfl⟩
    · have j2 := hk2 q4
      have sm1 : su u j ≠ 1 := fun y => by rw [if_pos y] at hv; exact z hv
      subst j2
      have u0 := h01 0 (by omega)
      have u1 := h01 1 (by omega)
      have : su u 2 = 0 + u 0 + u 1 := rfl
      unfold gdt tyt
      rw [if_neg (by omega), if_pos q4, if_pos (by omega)]
      exact ⟨by omega, rfl⟩
    · unfold gdt
      rw [if_pos q5]
      intro y
      have y2 := su_all1 y
      rw [if_pos y2] at hv
      rw [hv] at z
      exact absurd z (by decide)
    · unfold tyr
      rw [if_pos q5]
      refine ⟨sb3 ?_, rfl⟩
      by_cases y : su u j = (j : Int)
      · exact y
      · rw [if_neg y] at hv; exact absurd hv z
    · unfold gdt tyt
      rw [if_pos q5, if_pos (by omega)]
      refine ⟨sb3 ?_, rfl⟩
      by_cases y : su u j = (j : Int)
      · exact y
      · rw [if_neg y] at hv; exact absurd hv z
    · have k3 : j = 3 := by
        rcases hk with ⟨-, -, z⟩ | ⟨-, -, z, -⟩
        · omega
        · unfold ari at z; omega
      subst k3
      have g334 : ∀ (b : Int), (b = 0 ∨ b = 1) → (b = 1 ↔ u 0 = 1 ∧ u 1 = u 2) → h_MM_lookAt_334 G (d + 4) a p L b M3 (laX co M M3 a g N T K n L 3 u E rv) := fun b hb2 hb3 => by
        refine k_MM_lookAt_334 hO ip (i32s (by omega) (by omega)) (i32s (by omega) (by omega)) ?_
        rw [r19]
        refine ⟨w.1.1, (w.nu n93).1, (s_MN_last hO (w.nu n93) (by rw [hL]; omega)).mono (fun z M1 e1 => ?_)⟩
        obtain ⟨e1, hz⟩ := e1
        subst e1
        have z01 := h01 2 (by omega)
        rw [hL, show (((L + 3 : Nat) : Int) - 1).toNat = L + 2 by first | rfl | omega, hu 2 (by omega)] at hz
        rw [← hz] at z01
        refine ⟨i32s (by omega) (by omega), hO, fun y => ⟨w.1.1, flt p z ip z01 ep' ⟨q1, q2, by omega, by omega⟩ (by unfold gdt; rw [if_neg q5, if_neg q4, if_pos q6]; exact fun qq => by have := hb3.mpr qq; omega)⟩, fun y => ok z z01 q1 (ny q1 q2 q3 ?_) (fun _ => by unfold gdt tyt; rw [if_neg q5, if_neg q4, if_pos q6, if_neg (by omega), if_pos q6]; exact ⟨hb3.mp (by omega), hz⟩)⟩
        obtain ⟨y1, y2⟩ := hb3.mp (by omega)
        unfold tyr
        rw [if_neg q5, if_neg q4, if_pos q6]
        exact ⟨y1, y2.trans hz.symm, hz.symm⟩
      refine rd n93 (by rw [hL]; omega) (fun z hz iz => ⟨iz, hO, fun c1 => ?_, fun c1 => g334 0 (Or.inl rfl) ⟨fun y => by omega, fun y => absurd (by rw [hz]; exact (hu 0 (by omega)).trans y.1) c1⟩⟩)
      have hz0 : z = u 0 := hz.trans (hu 0 (by omega))
      rw [r19]
      refine ⟨w.1.1, (w.nu n93).1, ?_⟩
      rw [show (L : Int) + 1 = ((L + 1 : Nat) : Int) by first | rfl | omega]
      refine rd n93 (by rw [hL]; omega) (fun z2 hz2 iz2 => ⟨iz2, hO, w.1.1, ?_⟩)
      rw [hu 1 (by omega)] at hz2
      rw [r19]
      refine ⟨(w.nu n93).1, ?_⟩
      rw [show (L : Int) + 2 = ((L + 2 : Nat) : Int) by first | rfl | omega]
      exact rd n93 (by rw [hL]; omega) (fun z3 hz3 iz3 => ⟨iz3, hO, fun y => g334 1 (Or.inr rfl) ⟨fun _ => by rw [hu 2 (by omega)] at hz3; omega, fun _ => rfl⟩, fun y => g334 0 (Or.inl rfl) ⟨fun y => by omega, fun yy => absurd (by rw [hu 2 (by omega)] at hz3; omega) y⟩⟩)
    · unfold gdt
      rw [if_neg q5, if_neg q4, if_neg q6]
      intro y
      have y2 := su_all0 y
      rw [if_pos y2] at hv
      rw [hv] at z
      exact absurd z (by decide)
    · unfold tyr
      rw [if_neg q5, if_neg q4, if_neg q6]
      refine ⟨sb4 ?_, ?_⟩
      · by_cases y : su u j = 0
        · exact y
        · rw [if_neg y] at hv; exact absurd hv z
      · rw [hx, h7]
        by_cases y : 19 ≤ s ∧ s ≤ 22
        · rw [if_pos y, if_pos (show s = 23 ∨ s = 18 ∨ s = 21 ∨ s = 19 ∨ s = 22 ∨ s = 20 by first | rfl | omega)]; rfl
        · rw [if_neg y, if_neg (show ¬ (s = 23 ∨ s = 18 ∨ s = 21 ∨ s = 19 ∨ s = 22 ∨ s = 20) by first | rfl | omega)]; rfl
    · unfold gdt tyt
      rw [if_neg q5, if_neg q4, if_neg q6, if_neg (by omega), if_neg q6]
      refine ⟨sb4 ?_, ?_⟩
      · by_cases y : su u j = 0
        · exact y
        · rw [if_neg y] at hv; exact absurd hv z
      · rw [hx, h7]
        by_cases y : 19 ≤ s ∧ s ≤ 22
        · rw [if_pos y, if_pos (show s = 23 ∨ s = 18 ∨ s = 21 ∨ s = 19 ∨ s = 22 ∨ s = 20 by first | rfl | omega)]; rfl
        · rw [if_neg y, if_neg (show ¬ (s = 23 ∨ s = 18 ∨ s = 21 ∨ s = 19 ∨ s = 22 ∨ s = 20) by first | rfl | omega)]; rfl
end LAX
end
section
/-! What the parts of a node mean. -/
section PTS
variable {w E pl nv S A V F B : Nat → Int}
/-- the first fault of some rules, one after another -/
noncomputable def flr (w E pl : Nat → Int) : List (Nat × Nat) → Int × Int
  | [] => (0, 0)
  | r :: rs => fst9 (fl w E pl 0 r.1 r.2) (flr w E pl rs)
/-- their kinds -/
noncomputable def kdl (w E : Nat → Int) (rs : List (Nat × Nat)) (t : Nat) : Int := kdq w E 0 (rs.getD t (0, 0)).1 (rs.getD t (0, 0)).2
theorem flr_app : ∀ (rs rs' : List (Nat × Nat)), flr w E pl (rs ++ rs') = fst9 (flr w E pl rs) (flr w E pl rs')
  | [], rs' => (fst9_0 _).symm
  | r :: rs, rs' => by
    show fst9 _ (flr w E pl (rs ++ rs')) = fst9 (fst9 _ _) _
    rw [flr_app rs rs', fst9_a]
theorem fl_zz : ∀ (f c i j : Nat), 2 * (j - i) + c ≤ f → Eoc w c i j → (fl w E pl c i j).1 = 0 → fl w E pl c i j = (0, 0) := by
  have f2 : ∀ {a b : Int × Int}, (a.1 = 0 → a = (0, 0)) → (b.1 = 0 → b = (0, 0)) → (fst9 a b).1 = 0 → fst9 a b = (0, 0) := fun ha hb h => by
    obtain ⟨h1, h2⟩ := fst9_1.mp h
    rw [ha h1, fst9_0, hb h2]
  have fk : ∀ {p : Prop} {x : Int}, (kft p x).1 = 0 → kft p x = (0, 0) := fun {p x} h => by
    have := kft_1.mp h
    unfold kft
    rw [if_pos this]
  refine Eo_ind (P := fun c i j => (fl w E pl c i j).1 = 0 → fl w E pl c i j = (0, 0)) ?_ ?_ ?_ ?_ ?_ ?_ ?_ ?_
  · intro i m q j h1 h2 h3 h4 h5 h6 h7 h8 _ _ _ i1 i2 i3
    rw [fl_ask h1 h2 h3 h6 h8]
    exact f2 (f2 (f2 i1 i2) i3) fk
  · intro i m j h1 h2 h3 h4 _ _ i1 i2
    rw [fl_bin h1 h2 h3 (by omega)]
    exact f2 (f2 i1 i2) fk
  · intro i j h1 h2 h3 _ _ i1
    rw [fl_par h1 h2 h3]
    exact i1
  · intro i j h1 h2 h3 _ i1
    rcases h3 with h3 | h3
    · rw [fl_neg h1 h2 h3]; exact f2 i1 fk
    · rw [fl_not h1 h2 h3]; exact f2 i1 fk
  · intro i h1 h3
    rw [fl_leaf h1 (by omega) h3]
    split
    · intro h; exact absurd h (by simp)
    · intro _; rfl
  · intro i j h1 h2 h3 _ _ i1
    rw [fl_lst h1 h2 h3]
    exact f2 i1 fk
  · intro i j h1 h2 _ i1
    rw [fl_l1 h1 h2]
    exact i1
  · intro i m j h1 h2 h3 h4 h5 _ _ i1 i2
    rw [fl_ln h1 h4 h2]
    exact f2 i1 i2
theorem fl_z {i j : Nat} (he : Eo w 6 i j) (h : (fl w E pl 0 i j).1 = 0) : fl w E pl 0 i j = (0, 0) := fl_zz _ 0 i j (Nat.le_refl _) (Or.inl ⟨rfl, he⟩) h
theorem kf_01 : ∀ (f c i j : Nat), 2 * (j - i) + c ≤ f → Eoc w c i j → kdq w E c i j = 0 ∨ kdq w E c i j = 1 := by
  refine Eo_ind (P := fun c i j => kdq w E c i j = 0 ∨ kdq w E c i j = 1) ?_ ?_ ?_ ?_ ?_ ?_ ?_ ?_
  · intro i m q j h1 h2 h3 h4 h5 h6 h7 h8 _ _ _ i1 i2 i3
    rw [kd_ask h1 h2 h3 h6 h8]; exact i3
  · intro i m j h1 h2 h3 h4 _ _ i1 i2
    rw [kd_bin h1 h2 h3 (by omega)]
    split
    · exact Or.inr rfl
    · exact Or.inl rfl
  · intro i j h1 h2 h3 _ _ i1
    rw [kd_par h1 h2 h3]; exact i1
  · intro i j h1 h2 h3 _ i1
    rcases h3 with h3 | h3
    · rw [kd_num h1 h2 (Or.inl h3)]; exact Or.inl rfl
    · rw [kd_tru h1 h2 (Or.inl h3)]; exact Or.inr rfl
  · intro i h1 h3
    rcases h3 with h3 | h3 | h3
    · rw [kd_nam h1 (by omega) h3]
      split
      · exact Or.inr rfl
      · exact Or.inl rfl
    · rw [kd_num h1 (by omega) (Or.inr (Or.inl h3))]; exact Or.inl rfl
    · rw [kd_tru h1 (by omega) (Or.inr h3)]; exact Or.inr rfl
  · intro i j h1 h2 h3 _ _ i1
    rw [kd_num h1 h2 (Or.inr (Or.inr h3))]; exact Or.inl rfl
  · intro i j h1 h2 _ i1
    rw [kd_l1 h1 h2]; exact i1
  · intro i m j h1 h2 h3 h4 h5 _ _ i1 i2
    rw [kd_ln h1 h4 h2]
    split
    · exact Or.inr rfl
    · exact Or.inl rfl
theorem kf01 {i j : Nat} (h : Eo w 6 i j) : kdq w E 0 i j = 0 ∨ kdq w E 0 i j = 1 := kf_01 _ 0 i j (Nat.le_refl _) (Or.inl ⟨rfl, h⟩)
theorem kdl_01 {rs : List (Nat × Nat)} (h : ∀ r, r ∈ rs → Eo w 6 r.1 r.2) {t : Nat} (ht : t < rs.length) : kdl w E rs t = 0 ∨ kdl w E rs t = 1 := by
  unfold kdl
  rw [List.getD_eq_getElem?_getD, List.getElem?_eq_getElem ht]
  exact kf01 (h _ (List.getElem_mem ht))
theorem Tbq.app {i' j' e : Nat} {x : Int} : ∀ (rs : List (Nat × Nat)) {n k : Nat}, Tbq w pl nv S A V F B (k : Int) rs n k → Td w pl nv S A V F B 0 0 i' j' k e → B k = x → Tbq w pl nv S A V F B x (rs ++ [(i', j')]) n e
  | [], _, _, h, _, _ => h.elim
  | [(i, j)], n, k, h, h2, h3 => ⟨k, h.1, h.2, h2, h3⟩
  | (i, j) :: r :: rs, n, k, h, h2, h3 => by
    obtain ⟨m, k1, k2, k3⟩ := h
    exact ⟨m, k1, k2, Tbq.app (r :: rs) k3 h2 h3⟩
theorem td_tb : ∀ (f c i j : Nat), 2 * (j - i) + c ≤ f → Eoc w c i j → c = 1 → ∀ (x : Int) (n e : Nat), Td w pl nv S A V F B c x i j n e → ∃ rs : List (Nat × Nat), rs ≠ [] ∧ (∀ r, r ∈ rs → Eo w 6 r.1 r.2) ∧ Tbq w pl nv S A V F B x rs n e ∧ fl w E pl 1 i j = flr w E pl rs ∧ (kdq w E 1 i j = 1 ↔ ∃ t, t < rs.length ∧ kdl w E rs t = 1) := by
  refine Eo_ind (P := fun c i j => c = 1 → ∀ (x : Int) (n e : Nat), Td w pl nv S A V F B c x i j n e → ∃ rs : List (Nat × Nat), rs ≠ [] ∧ (∀ r, r ∈ rs → Eo w 6 r.1 r.2) ∧ Tbq w pl nv S A V F B x rs n e ∧ fl w E pl 1 i j = flr w E pl rs ∧ (kdq w E 1 i j = 1 ↔ ∃ t, t < rs.length ∧ kdl w E rs t = 1)) ?_ ?_ ?_ ?_ ?_ ?_ ?_ ?_
  · intros; omega
  · intros; omega
  · intros; omega
  · intros; omega
  · intros; omega
  · intros; omega
  · intro i j h1 h2 he i1 _ x n e ht
    rw [Td_l1 h1 h2] at ht
    refine ⟨[(i, j)], by simp, fun r hr => by rw [List.mem_singleton.1 hr]; exact he, ht, ?_, ?_⟩
    · rw [fl_l1 h1 h2]
      show _ = fst9 (fl w E pl 0 i j) (0, 0)
      unfold fst9
      split
      · rename_i h0; exact fl_z he h0
      · rfl
    · rw [kd_l1 h1 h2]
      refine ⟨fun h => ⟨0, by simp, h⟩, fun ⟨t, h3, h4⟩ => ?_⟩
      have : t = 0 := by simp at h3; omega
      subst this
      exact h4
  · intro i m j h1 h2 h3 h4 h5 o1 o2 i1 i2 _ x n e ht
    rw [Td_ln h1 h4 h2] at ht
    obtain ⟨k, t1, t2, b1⟩ := ht
    obtain ⟨rs, r1, r2, r3, r4, r5⟩ := i1 rfl _ _ _ t1
    have gl : ∀ t, t < rs.length → kdl w E (rs ++ [(m + 1, j)]) t = kdl w E rs t := fun t h => by
      unfold kdl
      rw [List.getD_eq_getElem?_getD, List.getD_eq_getElem?_getD, List.getElem?_append_left h]
    have gr : kdl w E (rs ++ [(m + 1, j)]) rs.length = kdq w E 0 (m + 1) j := by
      unfold kdl
      rw [List.getD_eq_getElem?_getD, List.getElem?_append_right (Nat.le_refl _), Nat.sub_self]
      rfl
    refine ⟨rs ++ [(m + 1, j)], by simp, fun r hr => ?_, r3.app rs t2 b1, ?_, ?_⟩
    · rcases List.mem_append.1 hr with q | q
      · exact r2 r q
      · rw [List.mem_singleton.1 q]; exact o2
    · rw [fl_ln h1 h4 h2, r4, flr_app]
      congr 1
      show _ = fst9 (fl w E pl 0 (m + 1) j) (0, 0)
      unfold fst9
      split
      · rename_i h0; exact fl_z o2 h0
      · rfl
    · rw [kd_ln h1 h4 h2]
      constructor
      · intro h
        by_cases c1 : kdq w E 0 (m + 1) j = 1
        · exact ⟨rs.length, by simp, by rw [gr]; exact c1⟩
        · by_cases c2 : kdq w E 1 i m = 1
          · obtain ⟨t, h6, h7⟩ := r5.mp c2
            exact ⟨t, by simp; omega, by rw [gl t h6]; exact h7⟩
          · rw [if_neg (fun q => q.elim c2 c1)] at h
            exact absurd h (by decide)
      · intro ⟨t, h6, h7⟩
        rw [if_pos]
        simp at h6
        by_cases c : t < rs.length
        · rw [gl t c] at h7
          exact Or.inl (r5.mpr ⟨t, c, h7⟩)
        · rw [show t = rs.length by first | rfl | omega, gr] at h7
          exact Or.inr h7
theorem kft_cg {p q : Prop} {x : Int} (h : p ↔ q) : kft p x = kft q x := by rw [propext h]
/-- a leaf, or a node with parts -/
theorem td_node : ∀ (f c i j : Nat), 2 * (j - i) + c ≤ f → Eoc w c i j → c = 0 → ∀ (x : Int) (n e : Nat), Td w pl nv S A V F B c x i j n e →
    (F n = -1 ∧ e = n + 1 ∧ ∃ k, (i ≤ k ∧ k < j) ∧ (w k = 1 ∨ w k = 2 ∨ w k = 12 ∨ w k = 13) ∧ S n = w k ∧ A n = pl k ∧ V n = nv k ∧ fl w E pl 0 i j = (if w k = 1 ∧ E k = -1 then (2, pl k) else (0, 0)) ∧ kdq w E 0 i j = (if w k = 12 ∨ w k = 13 ∨ (w k = 1 ∧ E k = 1) then 1 else 0))
    ∨ (F n = ((n + 1 : Nat) : Int) ∧ ∃ rs : List (Nat × Nat), rs ≠ [] ∧ (∀ r, r ∈ rs → Eo w 6 r.1 r.2) ∧ Tbq w pl nv S A V F B (-1) rs (n + 1) e ∧ (S n ≠ 1 ∧ S n ≠ 2 ∧ S n ≠ 12 ∧ S n ≠ 13) ∧ ari (S n) rs.length ∧ fl w E pl 0 i j = fst9 (flr w E pl rs) (kft (gdt (S n) rs.length (kdl w E rs)) (A n)) ∧ kdq w E 0 i j = tyt (S n) (kdl w E rs)) := by
  have fz : ∀ {i j : Nat}, Eo w 6 i j → fst9 (fl w E pl 0 i j) (0, 0) = fl w E pl 0 i j := fun {i j} he => by
    unfold fst9
    split
    · rename_i h0; exact (fl_z he h0).symm
    · rfl
  refine Eo_ind (P := fun c i j => c = 0 → ∀ (x : Int) (n e : Nat), Td w pl nv S A V F B c x i j n e → (F n = -1 ∧ e = n + 1 ∧ ∃ k, (i ≤ k ∧ k < j) ∧ (w k = 1 ∨ w k = 2 ∨ w k = 12 ∨ w k = 13) ∧ S n = w k ∧ A n = pl k ∧ V n = nv k ∧ fl w E pl 0 i j = (if w k = 1 ∧ E k = -1 then (2, pl k) else (0, 0)) ∧ kdq w E 0 i j = (if w k = 12 ∨ w k = 13 ∨ (w k = 1 ∧ E k = 1) then 1 else 0)) ∨ (F n = ((n + 1 : Nat) : Int) ∧ ∃ rs : List (Nat × Nat), rs ≠ [] ∧ (∀ r, r ∈ rs → Eo w 6 r.1 r.2) ∧ Tbq w pl nv S A V F B (-1) rs (n + 1) e ∧ (S n ≠ 1 ∧ S n ≠ 2 ∧ S n ≠ 12 ∧ S n ≠ 13) ∧ ari (S n) rs.length ∧ fl w E pl 0 i j = fst9 (flr w E pl rs) (kft (gdt (S n) rs.length (kdl w E rs)) (A n)) ∧ kdq w E 0 i j = tyt (S n) (kdl w E rs))) ?_ ?_ ?_ ?_ ?_ ?_ ?_ ?_
  · intro i m q j h1 h2 h3 h4 h5 h6 h7 h8 o1 o2 o3 _ _ _ _ x n e ht
    rw [Td_ask h1 h2 h3 h6 h8] at ht
    obtain ⟨a, b, ⟨s1, s2, s3⟩, t1, b1, t2, b2, t3, b3⟩ := ht
    refine Or.inr ⟨s3, [(i, m), (m + 1, q), (q + 1, j)], by simp, fun r hr => ?_, ⟨a, t1, b1, b, t2, b2, t3, b3⟩, by omega, by rw [s1, h6]; exact Or.inr (Or.inr (Or.inl ⟨rfl, rfl⟩)), ?_, ?_⟩
    · simp at hr
      rcases hr with hr | hr | hr <;> subst hr
      · exact o1
      · exact o2
      · exact o3
    · rw [fl_ask h1 h2 h3 h6 h8, s2]
      show _ = fst9 (fst9 (fl w E pl 0 i m) (fst9 (fl w E pl 0 (m + 1) q) (fst9 (fl w E pl 0 (q + 1) j) (0, 0)))) _
      rw [fz o3, fst9_a (fl w E pl 0 i m)]
      congr 1
      refine kft_cg ?_
      unfold gdt
      rw [s1, h6, if_neg (by decide), if_neg (by decide), if_pos rfl]
      exact Iff.rfl
    · rw [kd_ask h1 h2 h3 h6 h8]
      unfold tyt
      rw [s1, h6, if_neg (by decide), if_pos rfl]
      rfl
  · intro i m j h1 h2 h3 h4 o1 o2 _ _ _ x n e ht
    rw [Td_bin h1 h2 h3 (by omega)] at ht
    obtain ⟨a, ⟨s1, s2, s3⟩, t1, b1, t2, b2⟩ := ht
    refine Or.inr ⟨s3, [(i, m), (m + 1, j)], by simp, fun r hr => ?_, ⟨a, t1, b1, t2, b2⟩, by omega, by rw [s1]; exact Or.inr (Or.inl ⟨h4, rfl⟩), ?_, ?_⟩
    · simp at hr
      rcases hr with hr | hr <;> subst hr
      · exact o1
      · exact o2
    · rw [fl_bin h1 h2 h3 (by omega), s2]
      show _ = fst9 (fst9 (fl w E pl 0 i m) (fst9 (fl w E pl 0 (m + 1) j) (0, 0))) _
      rw [fz o2]
      congr 1
      refine kft_cg ?_
      have all2 : ∀ y : Int, (kdq w E 0 i m = y ∧ kdq w E 0 (m + 1) j = y) ↔ ∀ t, t < 2 → kdl w E [(i, m), (m + 1, j)] t = y := fun y => by
        constructor
        · intro ⟨u1, u2⟩ t ht
          have : t = 0 ∨ t = 1 := by omega
          rcases this with rfl | rfl
          · exact u1
          · exact u2
        · intro u
          exact ⟨u 0 (by omega), u 1 (by omega)⟩
      unfold okq gdt
      rw [s1]
      by_cases c1 : w m = 29 ∨ w m = 30
      · rw [if_pos c1, if_pos (show w m = 29 ∨ w m = 30 ∨ w m = 31 by first | rfl | omega)]
        exact all2 1
      · rw [if_neg c1, if_neg (show ¬ (w m = 29 ∨ w m = 30 ∨ w m = 31) by first | rfl | omega)]
        by_cases c2 : w m = 23 ∨ w m = 18
        · rw [if_pos c2, if_pos (show w m = 18 ∨ w m = 23 by first | rfl | omega)]
          exact Iff.rfl
        · rw [if_neg c2, if_neg (show ¬ (w m = 18 ∨ w m = 23) by first | rfl | omega), if_neg (show ¬ w m = 32 by first | rfl | omega)]
          exact all2 0
    · rw [kd_bin h1 h2 h3 (by omega)]
      unfold tyt tru
      rw [s1]
      by_cases c1 : (18 ≤ w m ∧ w m ≤ 23) ∨ w m = 29 ∨ w m = 30
      · rw [if_pos c1]
        by_cases c2 : w m = 29 ∨ w m = 30 ∨ w m = 31 ∨ w m = 18 ∨ w m = 23
        · rw [if_pos c2]
        · rw [if_neg c2, if_neg (by omega), if_pos (by omega)]
      · rw [if_neg c1, if_neg (by omega), if_neg (by omega), if_neg (by omega)]
  · intro i j h1 h2 h3 _ _ i1 _ x n e ht
    rw [Td_par h1 h2 h3] at ht
    rw [fl_par h1 h2 h3, kd_par h1 h2 h3]
    rcases i1 rfl _ _ _ ht with ⟨a1, a2, k, a3, a4⟩ | q
    · exact Or.inl ⟨a1, a2, k, by omega, a4⟩
    · exact Or.inr q
  · intro i j h1 h2 h3 o1 _ _ x n e ht
    rw [Td_pre h1 h2 h3] at ht
    obtain ⟨⟨s1, s2, s3⟩, t1, b1⟩ := ht
    have all1 : ∀ y : Int, kdq w E 0 (i + 1) j = y ↔ ∀ t, t < 1 → kdl w E [(i + 1, j)] t = y := fun y => by
      constructor
      · intro u t ht
        rw [show t = 0 by first | rfl | omega]
        exact u
      · intro u
        exact u 0 (by omega)
    refine Or.inr ⟨s3, [(i + 1, j)], by simp, fun r hr => by rw [List.mem_singleton.1 hr]; exact o1, ⟨t1, b1⟩, ?_, ?_, ?_, ?_⟩
    · rw [s1]; split <;> decide
    · rw [s1]; refine Or.inl ⟨?_, rfl⟩; split <;> simp
    · rw [s2]
      show _ = fst9 (fst9 (fl w E pl 0 (i + 1) j) (0, 0)) _
      rw [fz o1]
      rcases h3 with h3 | h3
      · rw [fl_neg h1 h2 h3]
        congr 1
        refine kft_cg ?_
        unfold gdt
        rw [s1, if_pos h3, if_neg (by decide), if_neg (by decide), if_neg (by decide)]
        exact all1 0
      · rw [fl_not h1 h2 h3]
        congr 1
        refine kft_cg ?_
        unfold gdt
        rw [s1, if_neg (show ¬ w i = 25 by first | rfl | omega), if_pos (by decide)]
        exact all1 1
    · unfold tyt
      rcases h3 with h3 | h3
      · rw [kd_num h1 h2 (Or.inl h3), s1, if_pos h3]
        rfl
      · rw [kd_tru h1 h2 (Or.inl h3), s1, if_neg (show ¬ w i = 25 by first | rfl | omega)]
        rfl
  · intro i h1 h3 _ x n e ht
    rw [Td_leaf h1 (by omega) h3] at ht
    obtain ⟨rfl, s1, s2, s3, s4⟩ := ht
    refine Or.inl ⟨s3, rfl, i, ⟨Nat.le_refl _, by omega⟩, h3, s1, s2, s4, fl_leaf h1 (by omega) h3, ?_⟩
    rcases h3 with h3 | h3 | h3
    · rw [kd_nam h1 (by omega) h3]
      by_cases c : E i = 1
      · rw [if_pos c, if_pos (Or.inr (Or.inr ⟨h3, c⟩))]
      · rw [if_neg c, if_neg (by omega)]
    · rw [kd_num h1 (by omega) (Or.inr (Or.inl h3)), if_neg (by omega)]
    · rw [kd_tru h1 (by omega) (Or.inr h3), if_pos (by omega)]
  · intro i j h1 h2 h3 _ o7 _ _ x n e ht
    rw [Td_lst h1 h2 h3] at ht
    obtain ⟨⟨s1, s2, s3⟩, t1⟩ := ht
    have y0 : S n ≠ 1 ∧ S n ≠ 2 ∧ S n ≠ 12 ∧ S n ≠ 13 := by omega
    have y1 : ¬ (w i = 29 ∨ w i = 30 ∨ w i = 31) := by omega
    have y2 : ¬ (w i = 18 ∨ w i = 23) := by omega
    have y3 : ¬ w i = 32 := by omega
    have y4 : ¬ (w i = 29 ∨ w i = 30 ∨ w i = 31 ∨ w i = 18 ∨ w i = 23) := by omega
    have y5 : ¬ (19 ≤ w i ∧ w i ≤ 22) := by omega
    obtain ⟨rs, r1, r2, r3, r4, r5⟩ := td_tb (E := E) _ 1 (i + 2) (j - 1) (Nat.le_refl _) (Or.inr ⟨rfl, o7⟩) rfl _ _ _ t1
    refine Or.inr ⟨s3, rs, r1, r2, r3, y0, by rw [s1]; exact Or.inr (Or.inr (Or.inr h3)), ?_, ?_⟩
    · rw [fl_lst h1 h2 h3, r4, s2]
      congr 1
      refine kft_cg ?_
      unfold gdt
      rw [s1, if_neg y1, if_neg y2, if_neg y3]
      constructor
      · intro u t ht
        rcases kdl_01 (E := E) r2 ht with v | v
        · exact v
        · have z1 := r5.mpr ⟨t, ht, v⟩
          rw [u] at z1
          exact absurd z1 (by decide)
      · intro u
        rcases kf_01 (E := E) _ 1 (i + 2) (j - 1) (Nat.le_refl _) (Or.inr ⟨rfl, o7⟩) with v | v
        · exact v
        · obtain ⟨t, h6, h7⟩ := r5.mp v
          have z1 := u t h6
          rw [h7] at z1
          exact absurd z1 (by decide)
    · rw [kd_num h1 h2 (Or.inr (Or.inr h3))]
      unfold tyt
      rw [s1, if_neg y4, if_neg y3, if_neg y5]
  · intros; omega
  · intros; omega
end PTS
end
