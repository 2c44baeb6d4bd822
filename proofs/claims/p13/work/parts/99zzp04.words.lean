/-! The words of a text, pure, and the class's words. -/
theorem ite_P9 {P : Int → Prop} {c : Prop} {_ : Decidable c} {a b : Int} (ha : P a) (hb : P b) : P (if c then a else b) := by
  split
  · exact ha
  · exact hb
theorem kwq_r (l : List Int) : 1 ≤ kwq l ∧ kwq l ≤ 15 ∧ kwq l ≠ 2 := by
  unfold kwq
  repeat' (first | decide | refine ite_P9 (P := fun v : Int => 1 ≤ v ∧ v ≤ 15 ∧ v ≠ 2) ?_ ?_)
theorem sgk_r (x y : Int) : 16 ≤ sgk x y ∧ sgk x y ≤ 39 := by
  unfold sgk
  repeat' (first | decide | refine ite_P9 (P := fun v : Int => 16 ≤ v ∧ v ≤ 39) ?_ ?_)
section CWD
variable {c : Nat → Int} {N n p w T A B D C : Nat} {M : mM}
theorem wkq_L (h : isL (c p)) : wkq (kwx c) c N p = if 40 < weq c N p - p then 39 else kwx c p (weq c N p) := by
  unfold wkq
  rw [if_pos h]
theorem wkq_D (h : ¬ isL (c p)) (h2 : isDq (c p)) : wkq (kwx c) c N p = if 9 < weq c N p - p then 39 else 2 := by
  unfold wkq
  rw [if_neg h, if_pos h2]
theorem wkq_S (h : ¬ isL (c p)) (h2 : ¬ isDq (c p)) : wkq (kwx c) c N p = sgk (c p) (lq c N (p + 1)) := by
  unfold wkq
  rw [if_neg h, if_neg h2]
theorem wk_1 (h : wkq (kwx c) c N p = 1) : isL (c p) := Classical.byContradiction (fun hL => by
  by_cases hD : isDq (c p)
  · rw [wkq_D hL hD] at h
    split at h <;> exact absurd h (by first | decide | simp)
  · rw [wkq_S hL hD] at h
    have := sgk_r (c p) (lq c N (p + 1))
    omega)
theorem wk_2 (h : wkq (kwx c) c N p = 2) : isDq (c p) := Classical.byContradiction (fun hD => by
  by_cases hL : isL (c p)
  · rw [wkq_L hL] at h
    split at h
    · exact absurd h (by first | decide | simp)
    · exact (kwq_r _).2.2 h
  · rw [wkq_S hL hD] at h
    have := sgk_r (c p) (lq c N (p + 1))
    omega)
theorem wk_b : 0 ≤ wkq (kwx c) c N p ∧ wkq (kwx c) c N p ≤ 39 := by
  by_cases hL : isL (c p)
  · rw [wkq_L hL]
    split
    · decide
    · have := kwq_r (wlq c p (weq c N p))
      show 0 ≤ kwq (wlq c p (weq c N p)) ∧ kwq (wlq c p (weq c N p)) ≤ 39
      omega
  · by_cases hD : isDq (c p)
    · rw [wkq_D hL hD]
      split <;> decide
    · rw [wkq_S hL hD]
      have := sgk_r (c p) (lq c N (p + 1))
      omega
/-- places, numbers, and which words are spelt alike -/
noncomputable def pl0 (c : Nat → Int) (N n j : Nat) : Int := if j < n then (pwq c N j : Int) else N
noncomputable def nq0 (c : Nat → Int) (N j : Nat) : Int := numq c (pwq c N j) (weq c N (pwq c N j) - pwq c N j)
def sm0 (c : Nat → Int) (N x v : Nat) : Prop := (weq c N (pwq c N x) : Int) - pwq c N x = (weq c N (pwq c N v) : Int) - pwq c N v ∧ ∀ i : Nat, (i : Int) < (weq c N (pwq c N v) : Int) - pwq c N v → c (pwq c N x + i) = c (pwq c N v + i)
theorem cwq_l {j : Nat} (h : j < n) : cwq kwx c N n j = wkq (kwx c) c N (pwq c N j) := if_pos h
/-! The words hang on the text's N characters alone. -/
section WCG
variable {c' : Nat → Int} {i f : Nat} {b : Bool}
theorem skq_cg : ∀ (f : Nat) (b : Bool) (i : Nat), (∀ j, i ≤ j → j < i + f → c j = c' j) → skq c f b i = skq c' f b i
  | 0, _, _, _ => rfl
  | f + 1, b, i, h => by
    have e := h i (Nat.le_refl _) (by omega)
    have r1 := skq_cg f true (i + 1) (fun j a b => h j (by omega) (by omega))
    have r2 := skq_cg f false (i + 1) (fun j a b => h j (by omega) (by omega))
    by_cases h1 : c i = 35 ∨ (b = true ∧ c i ≠ 10)
    · rw [skq_rem h1, skq_rem (by rw [← e]; exact h1), r1]
    · by_cases h2 : blq (c i)
      · rw [skq_bl h1 h2, skq_bl (by rw [← e]; exact h1) (by rw [← e]; exact h2), r2]
      · rw [skq_end h1 h2, skq_end (by rw [← e]; exact h1) (by rw [← e]; exact h2)]
theorem enq_cg {P : Int → Prop} : ∀ (f i : Nat), (∀ j, i ≤ j → j < i + f → c j = c' j) → enq P c f i = enq P c' f i
  | 0, _, _ => rfl
  | f + 1, i, h => by
    have e := h i (Nat.le_refl _) (by omega)
    by_cases h1 : P (c i)
    · rw [enq_y h1, enq_y (by rw [← e]; exact h1), enq_cg f (i + 1) (fun j a b => h j (by omega) (by omega))]
    · rw [enq_n h1, enq_n (by rw [← e]; exact h1)]
theorem weq_cg (h : ∀ j, j < N → c j = c' j) (hp : p < N) : weq c N p = weq c' N p := by
  have l : lq c N (p + 1) = lq c' N (p + 1) := by
    unfold lq
    by_cases y : p + 1 < N
    · rw [if_pos y, if_pos y, h _ y]
    · rw [if_neg y, if_neg y]
  unfold weq
  rw [h p hp, l, enq_cg (N - p) p (fun j _ b => h j (by omega)), enq_cg (N - p) p (fun j _ b => h j (by omega))]
theorem wlq_cg (h : ∀ j, j < N → c j = c' j) {e : Nat} (he : e ≤ N) : wlq c p e = wlq c' p e := by
  unfold wlq
  refine List.map_congr_left (fun j hj => ?_)
  have := List.mem_range.mp hj
  exact h _ (by omega)
theorem wkq_cg (h : ∀ j, j < N → c j = c' j) (hp : p < N) : wkq (kwx c) c N p = wkq (kwx c') c' N p := by
  have l : lq c N (p + 1) = lq c' N (p + 1) := by
    unfold lq
    by_cases y : p + 1 < N
    · rw [if_pos y, if_pos y, h _ y]
    · rw [if_neg y, if_neg y]
  have e := weq_cg h hp
  have b := (weq_b (c := c) hp).2
  unfold wkq kwx
  rw [h p hp, l, ← e, wlq_cg h b]
theorem pwq_cg (h : ∀ j, j < N → c j = c' j) : ∀ j, (∀ i, i < j → pwq c N i < N) → pwq c N j = pwq c' N j
  | 0, _ => by
    show skp c N 0 = skp c' N 0
    exact skq_cg _ _ _ (fun j _ b => h j (by omega))
  | j + 1, hj => by
    have ih := pwq_cg h j (fun i hi => hj i (by omega))
    have lt := hj j (by omega)
    show skp c N (weq c N (pwq c N j)) = skp c' N (weq c' N (pwq c' N j))
    rw [← ih, ← weq_cg h lt]
    have b := (weq_b (c := c) lt).2
    exact skq_cg _ _ _ (fun j _ b => h j (by omega))
theorem numq_cg (h : ∀ j, j < N → c j = c' j) : ∀ l, p + l ≤ N → numq c p l = numq c' p l
  | 0, _ => rfl
  | l + 1, hl => by
    show 10 * numq c p l + (c (p + l) - 48) = 10 * numq c' p l + (c' (p + l) - 48)
    rw [numq_cg h l (by omega), h (p + l) (by omega)]
theorem spx_cg (h : ∀ j, j < N → c j = c' j) (s : spx kwx c N M A B D n) : spx kwx c' N M A B D n := by
  obtain ⟨s1, s2, s3⟩ := s
  have pj : ∀ j, j ≤ n → pwq c N j = pwq c' N j := fun j hj => pwq_cg h j (fun i hi => (s1 i (by omega)).1)
  have kj : ∀ j, j < n → wkq (kwx c) c N (pwq c N j) = wkq (kwx c') c' N (pwq c' N j) := fun j hj => by
    rw [← pj j (by omega)]
    exact wkq_cg h (s1 j hj).1
  refine ⟨fun i hi => ?_, fun i hi => by rw [← kj i (by omega)]; exact s2 i hi, ?_⟩
  · obtain ⟨lt, k1, k2, k3, k4⟩ := s1 i hi
    have wb := weq_b (c := c) lt
    have e := weq_cg h lt
    have k5 := kj i hi
    rw [pj i (by omega)] at lt k1 k2 k3 k4 wb e k5
    refine ⟨lt, ?_, k2, fun u => ?_, fun u v => ?_⟩
    · rw [k1, k5]
    · rw [← e]
      exact k3 (by rw [h _ lt]; exact u)
    · rw [← e, ← numq_cg h _ (by omega)]
      exact k4 (by rw [h _ lt]; exact u) (by rw [k5]; exact v)
  · rcases s3 with ⟨a1, a2⟩ | ⟨a1, a2⟩
    · exact Or.inl ⟨by rw [← pj n (Nat.le_refl _)]; exact a1, fun i hi => by rw [← kj i hi]; exact a2 i hi⟩
    · exact Or.inr ⟨a1, by rw [← kj (n - 1) (by omega)]; exact a2⟩
end WCG
theorem wt_of (hT : ∀ j, j < N → mI M T j = c j) (h : spx kwx c N M A B D n) (wf : Wf M w T A B D N C n) : WTq M T A B D n (cwq kwx c N n) (pl0 c N n) (nq0 c N) (sm0 c N) := by
  obtain ⟨-, -, -, wd, hA, hB⟩ := wf
  refine ⟨fun j hj => ⟨?_, wd_sort h hA j hj, ?_⟩, fun v hv h2 => ?_, fun v x hv hx h1 h2 => ?_⟩
  · by_cases y : j < n
    · rw [cwq_l y]
      exact wk_b
    · unfold cwq
      rw [if_neg y]
      decide
  · unfold pl0
    by_cases y : j < n
    · rw [if_pos y]
      exact (h.1 j y).2.2.1
    · rw [if_neg y, show j = n by omega]
      exact hB
  · rw [cwq_l hv] at h2
    obtain ⟨-, k1, k2, k3, k4⟩ := h.1 v hv
    have s3 : mI M A v = 3 := by rw [k1, h2]; rfl
    obtain ⟨b1, b2⟩ := (wd v hv).2.2.2 s3
    have e : mI M D v = nq0 c N v := k4 (wk_2 h2) (by rw [h2]; decide)
    refine ⟨e, ?_⟩
    rw [← e]
    exact ⟨b1, b2⟩
  · rw [cwq_l hv] at h1
    rw [cwq_l hx] at h2
    obtain ⟨pv, -, v2, v3, -⟩ := h.1 v hv
    obtain ⟨px, -, x2, x3, -⟩ := h.1 x hx
    have bv := (weq_b (c := c) pv).2
    have bx := (weq_b (c := c) px).2
    unfold sm0 swq
    rw [v2, x2, v3 (wk_1 h1), x3 (wk_1 h2), Int.toNat_natCast, Int.toNat_natCast]
    refine ⟨fun u => ⟨u.1, fun i hi => ?_⟩, fun u => ⟨u.1, fun i hi => ?_⟩⟩
    · have u1 := u.1
      rw [hT _ (by omega), hT _ (by omega)]
      exact u.2 i hi
    · have u1 := u.1
      rw [← hT _ (by omega), ← hT _ (by omega)]
      exact u.2 i hi
end CWD
